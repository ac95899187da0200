/-! ===== the constructors ===== -/
def mX9_init : zz_M := (yX9_init, cX9_init, 1, none)
def mX3_init : zz_M := (yX3_init, cX3_init, 1, none)
def mX10_init : zz_M := (yX10_init, cX10_init, 1, none)
def mX7_init : zz_M := (yX7_init, cX7_init, 2, none)
def mX0_init : zz_M := (yX0_init, cX0_init, 2, none)
def mX1_init : zz_M := (yX1_init, cX1_init, 3, none)
def mX2_init : zz_M := (yX2_init, cX2_init, 4, none)
def mX4_init : zz_M := (yX4_init, cX4_init, 4, none)
def mX6_init : zz_M := (yX6_init, cX6_init, 1, none)
def mX5_init : zz_M := (yX5_init, cX5_init, 2, none)
def mX8_init : zz_M := (yX8_init, cX8_init, 2, none)
theorem lo_X9_3 : Cond.methodLink RX9 3 objectInit ∈ zz_tbl := (zz_mem 213 (by decide +kernel) rfl)
theorem fa_X9_9 : zz_FL RX9 9 9 0 (.array .int) true := ⟨RX9, TX9, 3, rfl, (Nat.le_of_ble_eq_true rfl), (zz_mem 214 (by decide +kernel) rfl), inX9, ⟨tyX9, tyX9_ok, rfl⟩, nmX9, rfl⟩
theorem fa_X9_15 : zz_FL RX9 15 9 1 (.array .int) true := ⟨RX9, TX9, 3, rfl, (Nat.le_of_ble_eq_true rfl), (zz_mem 219 (by decide +kernel) rfl), inX9, ⟨tyX9, tyX9_ok, rfl⟩, nmX9, rfl⟩
theorem lo_X3_3 : Cond.methodLink RX3 3 objectInit ∈ zz_tbl := (zz_mem 169 (by decide +kernel) rfl)
theorem fa_X3_9 : zz_FL RX3 9 3 0 (.array .int) true := ⟨RX3, TX3, 8, rfl, (Nat.le_of_ble_eq_true rfl), (zz_mem 170 (by decide +kernel) rfl), inX3, ⟨tyX3, tyX3_ok, rfl⟩, nmX3, rfl⟩
theorem fa_X3_15 : zz_FL RX3 15 3 1 (.array .int) true := ⟨RX3, TX3, 8, rfl, (Nat.le_of_ble_eq_true rfl), (zz_mem 171 (by decide +kernel) rfl), inX3, ⟨tyX3, tyX3_ok, rfl⟩, nmX3, rfl⟩
theorem fa_X3_18 : zz_FL RX3 18 3 2 (.array .int) true := ⟨RX3, TX3, 8, rfl, (Nat.le_of_ble_eq_true rfl), (zz_mem 174 (by decide +kernel) rfl), inX3, ⟨tyX3, tyX3_ok, rfl⟩, nmX3, rfl⟩
theorem lo_X10_3 : Cond.methodLink RX10 3 objectInit ∈ zz_tbl := (zz_mem 565 (by decide +kernel) rfl)
theorem fa_X10_9 : zz_FL RX10 9 10 0 (.array .long) true := ⟨RX10, TX10, 3, rfl, (Nat.le_of_ble_eq_true rfl), (zz_mem 566 (by decide +kernel) rfl), inX10, ⟨tyX10, tyX10_ok, rfl⟩, nmX10, rfl⟩
theorem fa_X10_15 : zz_FL RX10 15 10 2 (.int) false := ⟨RX10, TX10, 3, rfl, (Nat.le_of_ble_eq_true rfl), (zz_mem 569 (by decide +kernel) rfl), inX10, ⟨tyX10, tyX10_ok, rfl⟩, nmX10, rfl⟩
theorem lo_X7_3 : Cond.methodLink RX7 3 objectInit ∈ zz_tbl := (zz_mem 330 (by decide +kernel) rfl)
theorem fa_X7_9 : zz_FL RX7 9 7 1 (.array .byte) false := ⟨RX7, TX7, 10, rfl, (Nat.le_of_ble_eq_true rfl), (zz_mem 332 (by decide +kernel) rfl), inX7, ⟨tyX7, tyX7_ok, rfl⟩, nmX7, rfl⟩
theorem fa_X7_15 : zz_FL RX7 15 7 8 (.int) false := ⟨RX7, TX7, 10, rfl, (Nat.le_of_ble_eq_true rfl), (zz_mem 340 (by decide +kernel) rfl), inX7, ⟨tyX7, tyX7_ok, rfl⟩, nmX7, rfl⟩
theorem fa_X7_19 : zz_FL RX7 19 7 0 (.object "PillarDesk$Plan") true := ⟨RX7, TX7, 10, rfl, (Nat.le_of_ble_eq_true rfl), (zz_mem 331 (by decide +kernel) rfl), inX7, ⟨tyX7, tyX7_ok, rfl⟩, nmX7, rfl⟩
theorem lo_X0_1 : Cond.methodLink RX0 1 objectInit ∈ zz_tbl := (zz_mem 400 (by decide +kernel) rfl)
theorem fa_X0_7 : zz_FL RX0 7 0 1 (.array .byte) true := ⟨RX0, TX0, 2, rfl, (Nat.le_of_ble_eq_true rfl), (zz_mem 402 (by decide +kernel) rfl), inX0, ⟨tyX0, tyX0_ok, rfl⟩, nmX0, rfl⟩
theorem fa_X0_13 : zz_FL RX0 13 0 0 (.object "PillarDesk$Plan") true := ⟨RX0, TX0, 2, rfl, (Nat.le_of_ble_eq_true rfl), (zz_mem 401 (by decide +kernel) rfl), inX0, ⟨tyX0, tyX0_ok, rfl⟩, nmX0, rfl⟩
theorem lo_X1_3 : Cond.methodLink RX1 3 objectInit ∈ zz_tbl := (zz_mem 466 (by decide +kernel) rfl)
theorem fa_X1_9 : zz_FL RX1 9 1 2 (.array .int) true := ⟨RX1, TX1, 11, rfl, (Nat.le_of_ble_eq_true rfl), (zz_mem 469 (by decide +kernel) rfl), inX1, ⟨tyX1, tyX1_ok, rfl⟩, nmX1, rfl⟩
theorem fa_X1_15 : zz_FL RX1 15 1 3 (.array .int) true := ⟨RX1, TX1, 11, rfl, (Nat.le_of_ble_eq_true rfl), (zz_mem 473 (by decide +kernel) rfl), inX1, ⟨tyX1, tyX1_ok, rfl⟩, nmX1, rfl⟩
theorem fa_X1_18 : zz_FL RX1 18 1 4 (.array .long) true := ⟨RX1, TX1, 11, rfl, (Nat.le_of_ble_eq_true rfl), (zz_mem 475 (by decide +kernel) rfl), inX1, ⟨tyX1, tyX1_ok, rfl⟩, nmX1, rfl⟩
theorem fa_X1_22 : zz_FL RX1 22 1 5 (.array .int) true := ⟨RX1, TX1, 11, rfl, (Nat.le_of_ble_eq_true rfl), (zz_mem 476 (by decide +kernel) rfl), inX1, ⟨tyX1, tyX1_ok, rfl⟩, nmX1, rfl⟩
theorem fa_X1_25 : zz_FL RX1 25 1 0 (.object "PillarDesk$Plan") true := ⟨RX1, TX1, 11, rfl, (Nat.le_of_ble_eq_true rfl), (zz_mem 467 (by decide +kernel) rfl), inX1, ⟨tyX1, tyX1_ok, rfl⟩, nmX1, rfl⟩
theorem fa_X1_29 : zz_FL RX1 29 1 1 (.object "PillarDesk$Schedule") true := ⟨RX1, TX1, 11, rfl, (Nat.le_of_ble_eq_true rfl), (zz_mem 468 (by decide +kernel) rfl), inX1, ⟨tyX1, tyX1_ok, rfl⟩, nmX1, rfl⟩
theorem lo_X2_3 : Cond.methodLink RX2 3 objectInit ∈ zz_tbl := (zz_mem 511 (by decide +kernel) rfl)
theorem fa_X2_9 : zz_FL RX2 9 2 3 (.array .long) true := ⟨RX2, TX2, 5, rfl, (Nat.le_of_ble_eq_true rfl), (zz_mem 515 (by decide +kernel) rfl), inX2, ⟨tyX2, tyX2_ok, rfl⟩, nmX2, rfl⟩
theorem fa_X2_15 : zz_FL RX2 15 2 4 (.array .long) true := ⟨RX2, TX2, 5, rfl, (Nat.le_of_ble_eq_true rfl), (zz_mem 517 (by decide +kernel) rfl), inX2, ⟨tyX2, tyX2_ok, rfl⟩, nmX2, rfl⟩
theorem fa_X2_18 : zz_FL RX2 18 2 0 (.object "PillarDesk$Plan") true := ⟨RX2, TX2, 5, rfl, (Nat.le_of_ble_eq_true rfl), (zz_mem 512 (by decide +kernel) rfl), inX2, ⟨tyX2, tyX2_ok, rfl⟩, nmX2, rfl⟩
theorem fa_X2_22 : zz_FL RX2 22 2 1 (.object "PillarDesk$Schedule") true := ⟨RX2, TX2, 5, rfl, (Nat.le_of_ble_eq_true rfl), (zz_mem 513 (by decide +kernel) rfl), inX2, ⟨tyX2, tyX2_ok, rfl⟩, nmX2, rfl⟩
theorem fa_X2_26 : zz_FL RX2 26 2 2 (.object "PillarDesk$Curve") true := ⟨RX2, TX2, 5, rfl, (Nat.le_of_ble_eq_true rfl), (zz_mem 514 (by decide +kernel) rfl), inX2, ⟨tyX2, tyX2_ok, rfl⟩, nmX2, rfl⟩
theorem lo_X4_3 : Cond.methodLink RX4 3 objectInit ∈ zz_tbl := (zz_mem 535 (by decide +kernel) rfl)
theorem fa_X4_9 : zz_FL RX4 9 4 3 (.array .int) true := ⟨RX4, TX4, 7, rfl, (Nat.le_of_ble_eq_true rfl), (zz_mem 539 (by decide +kernel) rfl), inX4, ⟨tyX4, tyX4_ok, rfl⟩, nmX4, rfl⟩
theorem fa_X4_15 : zz_FL RX4 15 4 0 (.object "PillarDesk$Plan") true := ⟨RX4, TX4, 7, rfl, (Nat.le_of_ble_eq_true rfl), (zz_mem 536 (by decide +kernel) rfl), inX4, ⟨tyX4, tyX4_ok, rfl⟩, nmX4, rfl⟩
theorem fa_X4_19 : zz_FL RX4 19 4 1 (.object "PillarDesk$Curve") true := ⟨RX4, TX4, 7, rfl, (Nat.le_of_ble_eq_true rfl), (zz_mem 537 (by decide +kernel) rfl), inX4, ⟨tyX4, tyX4_ok, rfl⟩, nmX4, rfl⟩
theorem fa_X4_23 : zz_FL RX4 23 4 2 (.object "PillarDesk$Curve") true := ⟨RX4, TX4, 7, rfl, (Nat.le_of_ble_eq_true rfl), (zz_mem 538 (by decide +kernel) rfl), inX4, ⟨tyX4, tyX4_ok, rfl⟩, nmX4, rfl⟩
theorem lo_X6_3 : Cond.methodLink RX6 3 objectInit ∈ zz_tbl := (zz_mem 163 (by decide +kernel) rfl)
theorem fa_X6_9 : zz_FL RX6 9 6 4 (.array .int) true := ⟨RX6, TX6, 14, rfl, (Nat.le_of_ble_eq_true rfl), (zz_mem 251 (by decide +kernel) rfl), inX6, ⟨tyX6, tyX6_ok, rfl⟩, nmX6, rfl⟩
theorem fa_X6_15 : zz_FL RX6 15 6 6 (.array .int) true := ⟨RX6, TX6, 14, rfl, (Nat.le_of_ble_eq_true rfl), (zz_mem 259 (by decide +kernel) rfl), inX6, ⟨tyX6, tyX6_ok, rfl⟩, nmX6, rfl⟩
theorem fa_X6_18 : zz_FL RX6 18 6 7 (.array .int) true := ⟨RX6, TX6, 14, rfl, (Nat.le_of_ble_eq_true rfl), (zz_mem 265 (by decide +kernel) rfl), inX6, ⟨tyX6, tyX6_ok, rfl⟩, nmX6, rfl⟩
theorem fa_X6_21 : zz_FL RX6 21 6 8 (.array .int) true := ⟨RX6, TX6, 14, rfl, (Nat.le_of_ble_eq_true rfl), (zz_mem 269 (by decide +kernel) rfl), inX6, ⟨tyX6, tyX6_ok, rfl⟩, nmX6, rfl⟩
theorem fa_X6_24 : zz_FL RX6 24 6 9 (.array .int) true := ⟨RX6, TX6, 14, rfl, (Nat.le_of_ble_eq_true rfl), (zz_mem 273 (by decide +kernel) rfl), inX6, ⟨tyX6, tyX6_ok, rfl⟩, nmX6, rfl⟩
theorem fa_X6_27 : zz_FL RX6 27 6 11 (.array .int) true := ⟨RX6, TX6, 14, rfl, (Nat.le_of_ble_eq_true rfl), (zz_mem 282 (by decide +kernel) rfl), inX6, ⟨tyX6, tyX6_ok, rfl⟩, nmX6, rfl⟩
theorem nw_X6_30 : zA_NW RX6 30 3 [.null, .null, .null, .int 0, .int 0, .int 0, .int 0, .int 0] := ⟨RX3, TX3, 8, rfl, (zz_mem 164 (by decide +kernel) rfl), (zz_mem 165 (by decide +kernel) rfl), (zz_mem 131 (by decide +kernel) rfl), inX3, ⟨tyX3, tyX3_ok, fun j hj => match j, hj with
  | 0, _ => rfl
  | 1, _ => rfl
  | 2, _ => rfl
  | 3, _ => rfl
  | 4, _ => rfl
  | 5, _ => rfl
  | 6, _ => rfl
  | 7, _ => rfl⟩, rfl⟩
theorem oki_X3_init : zz_ok mX3_init 0 := ⟨(zz_mem 168 (by decide +kernel) rfl), (zz_mem 131 (by decide +kernel) rfl), ⟨by decide +kernel, by decide +kernel, by decide +kernel⟩, (Nat.le_of_ble_eq_true rfl)⟩
theorem lin_X6_32 : zA_LIN RX6 32 mX3_init 0 := ⟨by decide +kernel, oki_X3_init, by decide, (zz_mem 167 (by decide +kernel) rfl), rfl⟩
theorem fa_X6_33 : zz_FL RX6 33 6 12 (.object "PillarDesk$Laws") true := ⟨RX6, TX6, 14, rfl, (Nat.le_of_ble_eq_true rfl), (zz_mem 287 (by decide +kernel) rfl), inX6, ⟨tyX6, tyX6_ok, rfl⟩, nmX6, rfl⟩
theorem nw_X6_37 : zA_NW RX6 37 9 [.null, .null, .int 0] := ⟨RX9, TX9, 3, rfl, (zz_mem 208 (by decide +kernel) rfl), (zz_mem 209 (by decide +kernel) rfl), (zz_mem 132 (by decide +kernel) rfl), inX9, ⟨tyX9, tyX9_ok, fun j hj => match j, hj with
  | 0, _ => rfl
  | 1, _ => rfl
  | 2, _ => rfl⟩, rfl⟩
theorem oki_X9_init : zz_ok mX9_init 0 := ⟨(zz_mem 212 (by decide +kernel) rfl), (zz_mem 132 (by decide +kernel) rfl), ⟨by decide +kernel, by decide +kernel, by decide +kernel⟩, (Nat.le_of_ble_eq_true rfl)⟩
theorem lin_X6_39 : zA_LIN RX6 39 mX9_init 0 := ⟨by decide +kernel, oki_X9_init, by decide, (zz_mem 211 (by decide +kernel) rfl), rfl⟩
theorem fa_X6_40 : zz_FL RX6 40 6 13 (.object "PillarDesk$Stand") true := ⟨RX6, TX6, 14, rfl, (Nat.le_of_ble_eq_true rfl), (zz_mem 291 (by decide +kernel) rfl), inX6, ⟨tyX6, tyX6_ok, rfl⟩, nmX6, rfl⟩
theorem lo_X5_3 : Cond.methodLink RX5 3 objectInit ∈ zz_tbl := (zz_mem 372 (by decide +kernel) rfl)
theorem fa_X5_11 : zz_FL RX5 11 5 0 (.array (.object "PillarDesk$Stand")) true := ⟨RX5, TX5, 3, rfl, (Nat.le_of_ble_eq_true rfl), (zz_mem 376 (by decide +kernel) rfl), inX5, ⟨tyX5, tyX5_ok, rfl⟩, nmX5, rfl⟩
theorem nw_X5_9 : zA_NW RX5 9 9 [.null, .null, .int 0] := ⟨RX9, TX9, 3, rfl, (zz_mem 373 (by decide +kernel) rfl), (zz_mem 209 (by decide +kernel) rfl), (zz_mem 132 (by decide +kernel) rfl), inX9, ⟨tyX9, tyX9_ok, fun j hj => match j, hj with
  | 0, _ => rfl
  | 1, _ => rfl
  | 2, _ => rfl⟩, rfl⟩
theorem lin_X5_17 : zA_LIN RX5 17 mX9_init 0 := ⟨by decide +kernel, oki_X9_init, by decide, (zz_mem 211 (by decide +kernel) rfl), rfl⟩
theorem lo_X8_3 : Cond.methodLink RX8 3 objectInit ∈ zz_tbl := (zz_mem 394 (by decide +kernel) rfl)
theorem fa_X8_9 : zz_FL RX8 9 8 2 (.array .int) true := ⟨RX8, TX8, 11, rfl, (Nat.le_of_ble_eq_true rfl), (zz_mem 411 (by decide +kernel) rfl), inX8, ⟨tyX8, tyX8_ok, rfl⟩, nmX8, rfl⟩
theorem fa_X8_15 : zz_FL RX8 15 8 3 (.array .int) true := ⟨RX8, TX8, 11, rfl, (Nat.le_of_ble_eq_true rfl), (zz_mem 415 (by decide +kernel) rfl), inX8, ⟨tyX8, tyX8_ok, rfl⟩, nmX8, rfl⟩
theorem fa_X8_18 : zz_FL RX8 18 8 4 (.array .int) true := ⟨RX8, TX8, 11, rfl, (Nat.le_of_ble_eq_true rfl), (zz_mem 419 (by decide +kernel) rfl), inX8, ⟨tyX8, tyX8_ok, rfl⟩, nmX8, rfl⟩
theorem fa_X8_21 : zz_FL RX8 21 8 5 (.array .int) true := ⟨RX8, TX8, 11, rfl, (Nat.le_of_ble_eq_true rfl), (zz_mem 423 (by decide +kernel) rfl), inX8, ⟨tyX8, tyX8_ok, rfl⟩, nmX8, rfl⟩
theorem fa_X8_24 : zz_FL RX8 24 8 6 (.array .int) true := ⟨RX8, TX8, 11, rfl, (Nat.le_of_ble_eq_true rfl), (zz_mem 424 (by decide +kernel) rfl), inX8, ⟨tyX8, tyX8_ok, rfl⟩, nmX8, rfl⟩
theorem fa_X8_27 : zz_FL RX8 27 8 7 (.array .int) true := ⟨RX8, TX8, 11, rfl, (Nat.le_of_ble_eq_true rfl), (zz_mem 426 (by decide +kernel) rfl), inX8, ⟨tyX8, tyX8_ok, rfl⟩, nmX8, rfl⟩
theorem fa_X8_30 : zz_FL RX8 30 8 9 (.array .int) true := ⟨RX8, TX8, 11, rfl, (Nat.le_of_ble_eq_true rfl), (zz_mem 431 (by decide +kernel) rfl), inX8, ⟨tyX8, tyX8_ok, rfl⟩, nmX8, rfl⟩
theorem fa_X8_33 : zz_FL RX8 33 8 10 (.array .int) true := ⟨RX8, TX8, 11, rfl, (Nat.le_of_ble_eq_true rfl), (zz_mem 434 (by decide +kernel) rfl), inX8, ⟨tyX8, tyX8_ok, rfl⟩, nmX8, rfl⟩
theorem fa_X8_36 : zz_FL RX8 36 8 0 (.object "PillarDesk$Plan") true := ⟨RX8, TX8, 11, rfl, (Nat.le_of_ble_eq_true rfl), (zz_mem 408 (by decide +kernel) rfl), inX8, ⟨tyX8, tyX8_ok, rfl⟩, nmX8, rfl⟩
theorem nw_X8_40 : zA_NW RX8 40 0 [.null, .null] := ⟨RX0, TX0, 2, rfl, (zz_mem 395 (by decide +kernel) rfl), (zz_mem 396 (by decide +kernel) rfl), (zz_mem 136 (by decide +kernel) rfl), inX0, ⟨tyX0, tyX0_ok, fun j hj => match j, hj with
  | 0, _ => rfl
  | 1, _ => rfl⟩, rfl⟩
theorem oki_X0_init : zz_ok mX0_init 1 := ⟨(zz_mem 399 (by decide +kernel) rfl), (zz_mem 136 (by decide +kernel) rfl), ⟨by decide +kernel, by decide +kernel, by decide +kernel⟩, (Nat.le_of_ble_eq_true rfl)⟩
theorem li_X8_42 : zA_LI RX8 42 mX0_init 1 := ⟨(zz_mem 397 (by decide +kernel) rfl), oki_X0_init, by decide, (zz_mem 398 (by decide +kernel) rfl), rfl⟩
theorem fa_X8_45 : zz_FL RX8 45 8 1 (.object "PillarDesk$Calendar") true := ⟨RX8, TX8, 11, rfl, (Nat.le_of_ble_eq_true rfl), (zz_mem 409 (by decide +kernel) rfl), inX8, ⟨tyX8, tyX8_ok, rfl⟩, nmX8, rfl⟩
theorem dX9_init_0 : decode cX9_init 0 = .ok (.aload_n 0, 1) := by decide +kernel
theorem dX9_init_1 : decode cX9_init 1 = .ok (.invokespecial 3, 3) := by decide +kernel
theorem dX9_init_4 : decode cX9_init 4 = .ok (.aload_n 0, 1) := by decide +kernel
theorem dX9_init_5 : decode cX9_init 5 = .ok (.bipush 8, 2) := by decide +kernel
theorem dX9_init_7 : decode cX9_init 7 = .ok (.newarray .int, 2) := by decide +kernel
theorem dX9_init_9 : decode cX9_init 9 = .ok (.putfield 9, 3) := by decide +kernel
theorem dX9_init_12 : decode cX9_init 12 = .ok (.aload_n 0, 1) := by decide +kernel
theorem dX9_init_13 : decode cX9_init 13 = .ok (.bipush 10, 2) := by decide +kernel
theorem dX9_init_15 : decode cX9_init 15 = .ok (.newarray .int, 2) := by decide +kernel
theorem dX9_init_17 : decode cX9_init 17 = .ok (.putfield 15, 3) := by decide +kernel
theorem dX9_init_20 : decode cX9_init 20 = .ok (.return_, 1) := by decide +kernel
set_option maxRecDepth 20000 in
theorem c_X9_init {l : Launch} {E : zz_G} (h0 : Nat) : zA_Con l E mX9_init 1 2 18 [.ref h0] [(h0, .inr (9, [.null, .null, .int 0]))] (fun ws => ∃ q1 q2 : Nat, ws = [(h0, .inr (9, [.ref q1,.ref q2,.int 0])), (q1, .inl (zz_c E 0, 8, .inl (fun _ => 0))), (q2, .inl (zz_c E 0, 10, .inl (fun _ => 0)))]) none := by
  refine zA_con (lv := [(0, .ref h0)]) (by decide +kernel) (Nat.le_of_ble_eq_true rfl) rfl ?_
  refine zA_aload_n dX9_init_0 rfl 0 rfl ?_
  refine zA_objInit dX9_init_1 lo_X9_3 (Nat.le_of_ble_eq_true rfl) (Nat.le_of_ble_eq_true rfl) ?_
  refine zA_aload_n dX9_init_4 rfl 0 rfl ?_
  refine zA_bipush (v := (8 : Int32)) dX9_init_5 (by decide) ?_
  refine zA_newI (N' := 8) dX9_init_7 (by decide) (by decide) (Nat.le_of_ble_eq_true rfl) (Nat.le_of_ble_eq_true rfl) (Nat.le_of_ble_eq_true rfl) (fun q1 => ?_)
  refine zA_eq (ws2 := [(h0, .inr (9, [.null, .null, .int 0])), (q1, .inl (zz_c E 0, 8, .inl (fun _ => 0)))]) rfl (zA_cnt (cs2 := 1) (sl2 := 8) rfl rfl ?_)
  refine zA_put (q0 := 0) (fs := [.null, .null, .int 0]) fa_X9_9 dX9_init_9 (by decide) (fun C T n h => by cases h; decide) rfl ⟨rfl, rfl⟩ (Nat.le_of_ble_eq_true rfl) (ws2 := [(h0, .inr (9, [.ref q1, .null, .int 0])), (q1, .inl (zz_c E 0, 8, .inl (fun _ => 0)))]) rfl ?_
  refine zA_aload_n dX9_init_12 rfl 0 rfl ?_
  refine zA_bipush (v := (10 : Int32)) dX9_init_13 (by decide) ?_
  refine zA_newI (N' := 10) dX9_init_15 (by decide) (by decide) (Nat.le_of_ble_eq_true rfl) (Nat.le_of_ble_eq_true rfl) (Nat.le_of_ble_eq_true rfl) (fun q2 => ?_)
  refine zA_eq (ws2 := [(h0, .inr (9, [.ref q1, .null, .int 0])), (q1, .inl (zz_c E 0, 8, .inl (fun _ => 0))), (q2, .inl (zz_c E 0, 10, .inl (fun _ => 0)))]) rfl (zA_cnt (cs2 := 2) (sl2 := 18) rfl rfl ?_)
  refine zA_put (q0 := 0) (fs := [.ref q1, .null, .int 0]) fa_X9_15 dX9_init_17 (by decide) (fun C T n h => by cases h; decide) rfl ⟨rfl, rfl⟩ (Nat.le_of_ble_eq_true rfl) (ws2 := [(h0, .inr (9, [.ref q1, .ref q2, .int 0])), (q1, .inl (zz_c E 0, 8, .inl (fun _ => 0))), (q2, .inl (zz_c E 0, 10, .inl (fun _ => 0)))]) rfl ?_
  exact zA_ret (ws' := []) dX9_init_20 rfl rfl rfl ⟨q1, q2, rfl⟩
theorem dX3_init_0 : decode cX3_init 0 = .ok (.aload_n 0, 1) := by decide +kernel
theorem dX3_init_1 : decode cX3_init 1 = .ok (.invokespecial 3, 3) := by decide +kernel
theorem dX3_init_4 : decode cX3_init 4 = .ok (.aload_n 0, 1) := by decide +kernel
theorem dX3_init_5 : decode cX3_init 5 = .ok (.sipush 900, 3) := by decide +kernel
theorem dX3_init_8 : decode cX3_init 8 = .ok (.newarray .int, 2) := by decide +kernel
theorem dX3_init_10 : decode cX3_init 10 = .ok (.putfield 9, 3) := by decide +kernel
theorem dX3_init_13 : decode cX3_init 13 = .ok (.aload_n 0, 1) := by decide +kernel
theorem dX3_init_14 : decode cX3_init 14 = .ok (.iconst 5, 1) := by decide +kernel
theorem dX3_init_15 : decode cX3_init 15 = .ok (.newarray .int, 2) := by decide +kernel
theorem dX3_init_17 : decode cX3_init 17 = .ok (.putfield 15, 3) := by decide +kernel
theorem dX3_init_20 : decode cX3_init 20 = .ok (.aload_n 0, 1) := by decide +kernel
theorem dX3_init_21 : decode cX3_init 21 = .ok (.bipush 64, 2) := by decide +kernel
theorem dX3_init_23 : decode cX3_init 23 = .ok (.newarray .int, 2) := by decide +kernel
theorem dX3_init_25 : decode cX3_init 25 = .ok (.putfield 18, 3) := by decide +kernel
theorem dX3_init_28 : decode cX3_init 28 = .ok (.return_, 1) := by decide +kernel
set_option maxRecDepth 20000 in
theorem c_X3_init {l : Launch} {E : zz_G} (h0 : Nat) : zA_Con l E mX3_init 1 3 969 [.ref h0] [(h0, .inr (3, [.null, .null, .null, .int 0, .int 0, .int 0, .int 0, .int 0]))] (fun ws => ∃ q1 q2 q3 : Nat, ws = [(h0, .inr (3, [.ref q1,.ref q2,.ref q3,.int 0,.int 0,.int 0,.int 0,.int 0])), (q1, .inl (zz_c E 0, 900, .inl (fun _ => 0))), (q2, .inl (zz_c E 0, 5, .inl (fun _ => 0))), (q3, .inl (zz_c E 0, 64, .inl (fun _ => 0)))]) none := by
  refine zA_con (lv := [(0, .ref h0)]) (by decide +kernel) (Nat.le_of_ble_eq_true rfl) rfl ?_
  refine zA_aload_n dX3_init_0 rfl 0 rfl ?_
  refine zA_objInit dX3_init_1 lo_X3_3 (Nat.le_of_ble_eq_true rfl) (Nat.le_of_ble_eq_true rfl) ?_
  refine zA_aload_n dX3_init_4 rfl 0 rfl ?_
  refine zA_sipush (v := (900 : Int32)) dX3_init_5 (by decide) ?_
  refine zA_newI (N' := 900) dX3_init_8 (by decide) (by decide) (Nat.le_of_ble_eq_true rfl) (Nat.le_of_ble_eq_true rfl) (Nat.le_of_ble_eq_true rfl) (fun q1 => ?_)
  refine zA_eq (ws2 := [(h0, .inr (3, [.null, .null, .null, .int 0, .int 0, .int 0, .int 0, .int 0])), (q1, .inl (zz_c E 0, 900, .inl (fun _ => 0)))]) rfl (zA_cnt (cs2 := 1) (sl2 := 900) rfl rfl ?_)
  refine zA_put (q0 := 0) (fs := [.null, .null, .null, .int 0, .int 0, .int 0, .int 0, .int 0]) fa_X3_9 dX3_init_10 (by decide) (fun C T n h => by cases h; decide) rfl ⟨rfl, rfl⟩ (Nat.le_of_ble_eq_true rfl) (ws2 := [(h0, .inr (3, [.ref q1, .null, .null, .int 0, .int 0, .int 0, .int 0, .int 0])), (q1, .inl (zz_c E 0, 900, .inl (fun _ => 0)))]) rfl ?_
  refine zA_aload_n dX3_init_13 rfl 0 rfl ?_
  refine zA_iconst (v := (5 : Int32)) dX3_init_14 (by decide) ?_
  refine zA_newI (N' := 5) dX3_init_15 (by decide) (by decide) (Nat.le_of_ble_eq_true rfl) (Nat.le_of_ble_eq_true rfl) (Nat.le_of_ble_eq_true rfl) (fun q2 => ?_)
  refine zA_eq (ws2 := [(h0, .inr (3, [.ref q1, .null, .null, .int 0, .int 0, .int 0, .int 0, .int 0])), (q1, .inl (zz_c E 0, 900, .inl (fun _ => 0))), (q2, .inl (zz_c E 0, 5, .inl (fun _ => 0)))]) rfl (zA_cnt (cs2 := 2) (sl2 := 905) rfl rfl ?_)
  refine zA_put (q0 := 0) (fs := [.ref q1, .null, .null, .int 0, .int 0, .int 0, .int 0, .int 0]) fa_X3_15 dX3_init_17 (by decide) (fun C T n h => by cases h; decide) rfl ⟨rfl, rfl⟩ (Nat.le_of_ble_eq_true rfl) (ws2 := [(h0, .inr (3, [.ref q1, .ref q2, .null, .int 0, .int 0, .int 0, .int 0, .int 0])), (q1, .inl (zz_c E 0, 900, .inl (fun _ => 0))), (q2, .inl (zz_c E 0, 5, .inl (fun _ => 0)))]) rfl ?_
  refine zA_aload_n dX3_init_20 rfl 0 rfl ?_
  refine zA_bipush (v := (64 : Int32)) dX3_init_21 (by decide) ?_
  refine zA_newI (N' := 64) dX3_init_23 (by decide) (by decide) (Nat.le_of_ble_eq_true rfl) (Nat.le_of_ble_eq_true rfl) (Nat.le_of_ble_eq_true rfl) (fun q3 => ?_)
  refine zA_eq (ws2 := [(h0, .inr (3, [.ref q1, .ref q2, .null, .int 0, .int 0, .int 0, .int 0, .int 0])), (q1, .inl (zz_c E 0, 900, .inl (fun _ => 0))), (q2, .inl (zz_c E 0, 5, .inl (fun _ => 0))), (q3, .inl (zz_c E 0, 64, .inl (fun _ => 0)))]) rfl (zA_cnt (cs2 := 3) (sl2 := 969) rfl rfl ?_)
  refine zA_put (q0 := 0) (fs := [.ref q1, .ref q2, .null, .int 0, .int 0, .int 0, .int 0, .int 0]) fa_X3_18 dX3_init_25 (by decide) (fun C T n h => by cases h; decide) rfl ⟨rfl, rfl⟩ (Nat.le_of_ble_eq_true rfl) (ws2 := [(h0, .inr (3, [.ref q1, .ref q2, .ref q3, .int 0, .int 0, .int 0, .int 0, .int 0])), (q1, .inl (zz_c E 0, 900, .inl (fun _ => 0))), (q2, .inl (zz_c E 0, 5, .inl (fun _ => 0))), (q3, .inl (zz_c E 0, 64, .inl (fun _ => 0)))]) rfl ?_
  exact zA_ret (ws' := []) dX3_init_28 rfl rfl rfl ⟨q1, q2, q3, rfl⟩
theorem dX10_init_0 : decode cX10_init 0 = .ok (.aload_n 0, 1) := by decide +kernel
theorem dX10_init_1 : decode cX10_init 1 = .ok (.invokespecial 3, 3) := by decide +kernel
theorem dX10_init_4 : decode cX10_init 4 = .ok (.aload_n 0, 1) := by decide +kernel
theorem dX10_init_5 : decode cX10_init 5 = .ok (.bipush 40, 2) := by decide +kernel
theorem dX10_init_7 : decode cX10_init 7 = .ok (.newarray .long, 2) := by decide +kernel
theorem dX10_init_9 : decode cX10_init 9 = .ok (.putfield 9, 3) := by decide +kernel
theorem dX10_init_12 : decode cX10_init 12 = .ok (.aload_n 0, 1) := by decide +kernel
theorem dX10_init_13 : decode cX10_init 13 = .ok (.iconst (-1), 1) := by decide +kernel
theorem dX10_init_14 : decode cX10_init 14 = .ok (.putfield 15, 3) := by decide +kernel
theorem dX10_init_17 : decode cX10_init 17 = .ok (.return_, 1) := by decide +kernel
set_option maxRecDepth 20000 in
theorem c_X10_init {l : Launch} {E : zz_G} (h0 : Nat) : zA_Con l E mX10_init 1 1 40 [.ref h0] [(h0, .inr (10, [.null, .int 0, .int 0]))] (fun ws => ∃ q1 : Nat, ws = [(h0, .inr (10, [.ref q1,.int 0,.int (-1 : Int32)])), (q1, .inl (zz_c E 1, 40, .inr (.inl (fun _ => 0))))]) none := by
  refine zA_con (lv := [(0, .ref h0)]) (by decide +kernel) (Nat.le_of_ble_eq_true rfl) rfl ?_
  refine zA_aload_n dX10_init_0 rfl 0 rfl ?_
  refine zA_objInit dX10_init_1 lo_X10_3 (Nat.le_of_ble_eq_true rfl) (Nat.le_of_ble_eq_true rfl) ?_
  refine zA_aload_n dX10_init_4 rfl 0 rfl ?_
  refine zA_bipush (v := (40 : Int32)) dX10_init_5 (by decide) ?_
  refine zA_newJ (N' := 40) dX10_init_7 (by decide) (by decide) (Nat.le_of_ble_eq_true rfl) (Nat.le_of_ble_eq_true rfl) (Nat.le_of_ble_eq_true rfl) (fun q1 => ?_)
  refine zA_eq (ws2 := [(h0, .inr (10, [.null, .int 0, .int 0])), (q1, .inl (zz_c E 1, 40, .inr (.inl (fun _ => 0))))]) rfl (zA_cnt (cs2 := 1) (sl2 := 40) rfl rfl ?_)
  refine zA_put (q0 := 0) (fs := [.null, .int 0, .int 0]) fa_X10_9 dX10_init_9 (by decide) (fun C T n h => by cases h; decide) rfl ⟨rfl, rfl⟩ (Nat.le_of_ble_eq_true rfl) (ws2 := [(h0, .inr (10, [.ref q1, .int 0, .int 0])), (q1, .inl (zz_c E 1, 40, .inr (.inl (fun _ => 0))))]) rfl ?_
  refine zA_aload_n dX10_init_12 rfl 0 rfl ?_
  refine zA_iconst (v := (-1 : Int32)) dX10_init_13 (by decide) ?_
  refine zA_put (q0 := 0) (fs := [.ref q1, .int 0, .int 0]) fa_X10_15 dX10_init_14 (by decide) (fun C T n h => by cases h; decide) rfl ⟨rfl, rfl⟩ (Nat.le_of_ble_eq_true rfl) (ws2 := [(h0, .inr (10, [.ref q1, .int 0, .int (-1 : Int32)])), (q1, .inl (zz_c E 1, 40, .inr (.inl (fun _ => 0))))]) rfl ?_
  exact zA_ret (ws' := []) dX10_init_17 rfl rfl rfl ⟨q1, rfl⟩
theorem dX7_init_0 : decode cX7_init 0 = .ok (.aload_n 0, 1) := by decide +kernel
theorem dX7_init_1 : decode cX7_init 1 = .ok (.invokespecial 3, 3) := by decide +kernel
theorem dX7_init_4 : decode cX7_init 4 = .ok (.aload_n 0, 1) := by decide +kernel
theorem dX7_init_5 : decode cX7_init 5 = .ok (.iconst 0, 1) := by decide +kernel
theorem dX7_init_6 : decode cX7_init 6 = .ok (.newarray .byte, 2) := by decide +kernel
theorem dX7_init_8 : decode cX7_init 8 = .ok (.putfield 9, 3) := by decide +kernel
theorem dX7_init_11 : decode cX7_init 11 = .ok (.aload_n 0, 1) := by decide +kernel
theorem dX7_init_12 : decode cX7_init 12 = .ok (.iconst (-1), 1) := by decide +kernel
theorem dX7_init_13 : decode cX7_init 13 = .ok (.putfield 15, 3) := by decide +kernel
theorem dX7_init_16 : decode cX7_init 16 = .ok (.aload_n 0, 1) := by decide +kernel
theorem dX7_init_17 : decode cX7_init 17 = .ok (.aload_n 1, 1) := by decide +kernel
theorem dX7_init_18 : decode cX7_init 18 = .ok (.putfield 19, 3) := by decide +kernel
theorem dX7_init_21 : decode cX7_init 21 = .ok (.return_, 1) := by decide +kernel
set_option maxRecDepth 20000 in
theorem c_X7_init {l : Launch} {E : zz_G} (h0 p1 : Nat) : zA_Con l E mX7_init 1 1 0 [.ref h0, .ref p1] [(h0, .inr (7, [.null, .null, .int 0, .int 0, .int 0, .int 0, .int 0, .int 0, .int 0, .int 0]))] (fun ws => ∃ q1 : Nat, ws = [(h0, .inr (7, [.ref p1,.ref q1,.int 0,.int 0,.int 0,.int 0,.int 0,.int 0,.int (-1 : Int32),.int 0])), (q1, .inl (zz_c E 2, 0, .inl (fun _ => 0)))]) none := by
  refine zA_con (lv := [(0, .ref h0), (1, .ref p1)]) (by decide +kernel) (Nat.le_of_ble_eq_true rfl) rfl ?_
  refine zA_aload_n dX7_init_0 rfl 0 rfl ?_
  refine zA_objInit dX7_init_1 lo_X7_3 (Nat.le_of_ble_eq_true rfl) (Nat.le_of_ble_eq_true rfl) ?_
  refine zA_aload_n dX7_init_4 rfl 0 rfl ?_
  refine zA_iconst (v := (0 : Int32)) dX7_init_5 (by decide) ?_
  refine zA_newB (N' := 0) dX7_init_6 (by decide) (by decide) (Nat.le_of_ble_eq_true rfl) (Nat.le_of_ble_eq_true rfl) (Nat.le_of_ble_eq_true rfl) (fun q1 => ?_)
  refine zA_eq (ws2 := [(h0, .inr (7, [.null, .null, .int 0, .int 0, .int 0, .int 0, .int 0, .int 0, .int 0, .int 0])), (q1, .inl (zz_c E 2, 0, .inl (fun _ => 0)))]) rfl (zA_cnt (cs2 := 1) (sl2 := 0) rfl rfl ?_)
  refine zA_put (q0 := 0) (fs := [.null, .null, .int 0, .int 0, .int 0, .int 0, .int 0, .int 0, .int 0, .int 0]) fa_X7_9 dX7_init_8 (by decide) (fun C T n h => by cases h; decide) rfl ⟨rfl, rfl⟩ (Nat.le_of_ble_eq_true rfl) (ws2 := [(h0, .inr (7, [.null, .ref q1, .int 0, .int 0, .int 0, .int 0, .int 0, .int 0, .int 0, .int 0])), (q1, .inl (zz_c E 2, 0, .inl (fun _ => 0)))]) rfl ?_
  refine zA_aload_n dX7_init_11 rfl 0 rfl ?_
  refine zA_iconst (v := (-1 : Int32)) dX7_init_12 (by decide) ?_
  refine zA_put (q0 := 0) (fs := [.null, .ref q1, .int 0, .int 0, .int 0, .int 0, .int 0, .int 0, .int 0, .int 0]) fa_X7_15 dX7_init_13 (by decide) (fun C T n h => by cases h; decide) rfl ⟨rfl, rfl⟩ (Nat.le_of_ble_eq_true rfl) (ws2 := [(h0, .inr (7, [.null, .ref q1, .int 0, .int 0, .int 0, .int 0, .int 0, .int 0, .int (-1 : Int32), .int 0])), (q1, .inl (zz_c E 2, 0, .inl (fun _ => 0)))]) rfl ?_
  refine zA_aload_n dX7_init_16 rfl 0 rfl ?_
  refine zA_aload_n dX7_init_17 rfl 1 rfl ?_
  refine zA_put (q0 := 0) (fs := [.null, .ref q1, .int 0, .int 0, .int 0, .int 0, .int 0, .int 0, .int (-1 : Int32), .int 0]) fa_X7_19 dX7_init_18 (by decide) (fun C T n h => by cases h; decide) rfl ⟨rfl, rfl⟩ (Nat.le_of_ble_eq_true rfl) (ws2 := [(h0, .inr (7, [.ref p1, .ref q1, .int 0, .int 0, .int 0, .int 0, .int 0, .int 0, .int (-1 : Int32), .int 0])), (q1, .inl (zz_c E 2, 0, .inl (fun _ => 0)))]) rfl ?_
  exact zA_ret (ws' := []) dX7_init_21 rfl rfl rfl ⟨q1, rfl⟩
theorem dX0_init_0 : decode cX0_init 0 = .ok (.aload_n 0, 1) := by decide +kernel
theorem dX0_init_1 : decode cX0_init 1 = .ok (.invokespecial 1, 3) := by decide +kernel
theorem dX0_init_4 : decode cX0_init 4 = .ok (.aload_n 0, 1) := by decide +kernel
theorem dX0_init_5 : decode cX0_init 5 = .ok (.sipush 2048, 3) := by decide +kernel
theorem dX0_init_8 : decode cX0_init 8 = .ok (.newarray .byte, 2) := by decide +kernel
theorem dX0_init_10 : decode cX0_init 10 = .ok (.putfield 7, 3) := by decide +kernel
theorem dX0_init_13 : decode cX0_init 13 = .ok (.aload_n 0, 1) := by decide +kernel
theorem dX0_init_14 : decode cX0_init 14 = .ok (.aload_n 1, 1) := by decide +kernel
theorem dX0_init_15 : decode cX0_init 15 = .ok (.putfield 13, 3) := by decide +kernel
theorem dX0_init_18 : decode cX0_init 18 = .ok (.return_, 1) := by decide +kernel
set_option maxRecDepth 20000 in
theorem c_X0_init {l : Launch} {E : zz_G} (h0 p1 : Nat) : zA_Con l E mX0_init 1 1 2048 [.ref h0, .ref p1] [(h0, .inr (0, [.null, .null]))] (fun ws => ∃ q1 : Nat, ws = [(h0, .inr (0, [.ref p1,.ref q1])), (q1, .inl (zz_c E 2, 2048, .inl (fun _ => 0)))]) none := by
  refine zA_con (lv := [(0, .ref h0), (1, .ref p1)]) (by decide +kernel) (Nat.le_of_ble_eq_true rfl) rfl ?_
  refine zA_aload_n dX0_init_0 rfl 0 rfl ?_
  refine zA_objInit dX0_init_1 lo_X0_1 (Nat.le_of_ble_eq_true rfl) (Nat.le_of_ble_eq_true rfl) ?_
  refine zA_aload_n dX0_init_4 rfl 0 rfl ?_
  refine zA_sipush (v := (2048 : Int32)) dX0_init_5 (by decide) ?_
  refine zA_newB (N' := 2048) dX0_init_8 (by decide) (by decide) (Nat.le_of_ble_eq_true rfl) (Nat.le_of_ble_eq_true rfl) (Nat.le_of_ble_eq_true rfl) (fun q1 => ?_)
  refine zA_eq (ws2 := [(h0, .inr (0, [.null, .null])), (q1, .inl (zz_c E 2, 2048, .inl (fun _ => 0)))]) rfl (zA_cnt (cs2 := 1) (sl2 := 2048) rfl rfl ?_)
  refine zA_put (q0 := 0) (fs := [.null, .null]) fa_X0_7 dX0_init_10 (by decide) (fun C T n h => by cases h; decide) rfl ⟨rfl, rfl⟩ (Nat.le_of_ble_eq_true rfl) (ws2 := [(h0, .inr (0, [.null, .ref q1])), (q1, .inl (zz_c E 2, 2048, .inl (fun _ => 0)))]) rfl ?_
  refine zA_aload_n dX0_init_13 rfl 0 rfl ?_
  refine zA_aload_n dX0_init_14 rfl 1 rfl ?_
  refine zA_put (q0 := 0) (fs := [.null, .ref q1]) fa_X0_13 dX0_init_15 (by decide) (fun C T n h => by cases h; decide) rfl ⟨rfl, rfl⟩ (Nat.le_of_ble_eq_true rfl) (ws2 := [(h0, .inr (0, [.ref p1, .ref q1])), (q1, .inl (zz_c E 2, 2048, .inl (fun _ => 0)))]) rfl ?_
  exact zA_ret (ws' := []) dX0_init_18 rfl rfl rfl ⟨q1, rfl⟩
theorem dX1_init_0 : decode cX1_init 0 = .ok (.aload_n 0, 1) := by decide +kernel
theorem dX1_init_1 : decode cX1_init 1 = .ok (.invokespecial 3, 3) := by decide +kernel
theorem dX1_init_4 : decode cX1_init 4 = .ok (.aload_n 0, 1) := by decide +kernel
theorem dX1_init_5 : decode cX1_init 5 = .ok (.bipush 8, 2) := by decide +kernel
theorem dX1_init_7 : decode cX1_init 7 = .ok (.newarray .int, 2) := by decide +kernel
theorem dX1_init_9 : decode cX1_init 9 = .ok (.putfield 9, 3) := by decide +kernel
theorem dX1_init_12 : decode cX1_init 12 = .ok (.aload_n 0, 1) := by decide +kernel
theorem dX1_init_13 : decode cX1_init 13 = .ok (.bipush 9, 2) := by decide +kernel
theorem dX1_init_15 : decode cX1_init 15 = .ok (.newarray .int, 2) := by decide +kernel
theorem dX1_init_17 : decode cX1_init 17 = .ok (.putfield 15, 3) := by decide +kernel
theorem dX1_init_20 : decode cX1_init 20 = .ok (.aload_n 0, 1) := by decide +kernel
theorem dX1_init_21 : decode cX1_init 21 = .ok (.bipush 34, 2) := by decide +kernel
theorem dX1_init_23 : decode cX1_init 23 = .ok (.newarray .long, 2) := by decide +kernel
theorem dX1_init_25 : decode cX1_init 25 = .ok (.putfield 18, 3) := by decide +kernel
theorem dX1_init_28 : decode cX1_init 28 = .ok (.aload_n 0, 1) := by decide +kernel
theorem dX1_init_29 : decode cX1_init 29 = .ok (.bipush 34, 2) := by decide +kernel
theorem dX1_init_31 : decode cX1_init 31 = .ok (.newarray .int, 2) := by decide +kernel
theorem dX1_init_33 : decode cX1_init 33 = .ok (.putfield 22, 3) := by decide +kernel
theorem dX1_init_36 : decode cX1_init 36 = .ok (.aload_n 0, 1) := by decide +kernel
theorem dX1_init_37 : decode cX1_init 37 = .ok (.aload_n 1, 1) := by decide +kernel
theorem dX1_init_38 : decode cX1_init 38 = .ok (.putfield 25, 3) := by decide +kernel
theorem dX1_init_41 : decode cX1_init 41 = .ok (.aload_n 0, 1) := by decide +kernel
theorem dX1_init_42 : decode cX1_init 42 = .ok (.aload_n 2, 1) := by decide +kernel
theorem dX1_init_43 : decode cX1_init 43 = .ok (.putfield 29, 3) := by decide +kernel
theorem dX1_init_46 : decode cX1_init 46 = .ok (.return_, 1) := by decide +kernel
set_option maxRecDepth 20000 in
theorem c_X1_init {l : Launch} {E : zz_G} (h0 p1 p2 : Nat) : zA_Con l E mX1_init 1 4 85 [.ref h0, .ref p1, .ref p2] [(h0, .inr (1, [.null, .null, .null, .null, .null, .null, .int 0, .long 0, .long 0, .long 0, .int 0]))] (fun ws => ∃ q1 q2 q3 q4 : Nat, ws = [(h0, .inr (1, [.ref p1,.ref p2,.ref q1,.ref q2,.ref q3,.ref q4,.int 0,.long 0,.long 0,.long 0,.int 0])), (q1, .inl (zz_c E 0, 8, .inl (fun _ => 0))), (q2, .inl (zz_c E 0, 9, .inl (fun _ => 0))), (q3, .inl (zz_c E 1, 34, .inr (.inl (fun _ => 0)))), (q4, .inl (zz_c E 0, 34, .inl (fun _ => 0)))]) none := by
  refine zA_con (lv := [(0, .ref h0), (1, .ref p1), (2, .ref p2)]) (by decide +kernel) (Nat.le_of_ble_eq_true rfl) rfl ?_
  refine zA_aload_n dX1_init_0 rfl 0 rfl ?_
  refine zA_objInit dX1_init_1 lo_X1_3 (Nat.le_of_ble_eq_true rfl) (Nat.le_of_ble_eq_true rfl) ?_
  refine zA_aload_n dX1_init_4 rfl 0 rfl ?_
  refine zA_bipush (v := (8 : Int32)) dX1_init_5 (by decide) ?_
  refine zA_newI (N' := 8) dX1_init_7 (by decide) (by decide) (Nat.le_of_ble_eq_true rfl) (Nat.le_of_ble_eq_true rfl) (Nat.le_of_ble_eq_true rfl) (fun q1 => ?_)
  refine zA_eq (ws2 := [(h0, .inr (1, [.null, .null, .null, .null, .null, .null, .int 0, .long 0, .long 0, .long 0, .int 0])), (q1, .inl (zz_c E 0, 8, .inl (fun _ => 0)))]) rfl (zA_cnt (cs2 := 1) (sl2 := 8) rfl rfl ?_)
  refine zA_put (q0 := 0) (fs := [.null, .null, .null, .null, .null, .null, .int 0, .long 0, .long 0, .long 0, .int 0]) fa_X1_9 dX1_init_9 (by decide) (fun C T n h => by cases h; decide) rfl ⟨rfl, rfl⟩ (Nat.le_of_ble_eq_true rfl) (ws2 := [(h0, .inr (1, [.null, .null, .ref q1, .null, .null, .null, .int 0, .long 0, .long 0, .long 0, .int 0])), (q1, .inl (zz_c E 0, 8, .inl (fun _ => 0)))]) rfl ?_
  refine zA_aload_n dX1_init_12 rfl 0 rfl ?_
  refine zA_bipush (v := (9 : Int32)) dX1_init_13 (by decide) ?_
  refine zA_newI (N' := 9) dX1_init_15 (by decide) (by decide) (Nat.le_of_ble_eq_true rfl) (Nat.le_of_ble_eq_true rfl) (Nat.le_of_ble_eq_true rfl) (fun q2 => ?_)
  refine zA_eq (ws2 := [(h0, .inr (1, [.null, .null, .ref q1, .null, .null, .null, .int 0, .long 0, .long 0, .long 0, .int 0])), (q1, .inl (zz_c E 0, 8, .inl (fun _ => 0))), (q2, .inl (zz_c E 0, 9, .inl (fun _ => 0)))]) rfl (zA_cnt (cs2 := 2) (sl2 := 17) rfl rfl ?_)
  refine zA_put (q0 := 0) (fs := [.null, .null, .ref q1, .null, .null, .null, .int 0, .long 0, .long 0, .long 0, .int 0]) fa_X1_15 dX1_init_17 (by decide) (fun C T n h => by cases h; decide) rfl ⟨rfl, rfl⟩ (Nat.le_of_ble_eq_true rfl) (ws2 := [(h0, .inr (1, [.null, .null, .ref q1, .ref q2, .null, .null, .int 0, .long 0, .long 0, .long 0, .int 0])), (q1, .inl (zz_c E 0, 8, .inl (fun _ => 0))), (q2, .inl (zz_c E 0, 9, .inl (fun _ => 0)))]) rfl ?_
  refine zA_aload_n dX1_init_20 rfl 0 rfl ?_
  refine zA_bipush (v := (34 : Int32)) dX1_init_21 (by decide) ?_
  refine zA_newJ (N' := 34) dX1_init_23 (by decide) (by decide) (Nat.le_of_ble_eq_true rfl) (Nat.le_of_ble_eq_true rfl) (Nat.le_of_ble_eq_true rfl) (fun q3 => ?_)
  refine zA_eq (ws2 := [(h0, .inr (1, [.null, .null, .ref q1, .ref q2, .null, .null, .int 0, .long 0, .long 0, .long 0, .int 0])), (q1, .inl (zz_c E 0, 8, .inl (fun _ => 0))), (q2, .inl (zz_c E 0, 9, .inl (fun _ => 0))), (q3, .inl (zz_c E 1, 34, .inr (.inl (fun _ => 0))))]) rfl (zA_cnt (cs2 := 3) (sl2 := 51) rfl rfl ?_)
  refine zA_put (q0 := 0) (fs := [.null, .null, .ref q1, .ref q2, .null, .null, .int 0, .long 0, .long 0, .long 0, .int 0]) fa_X1_18 dX1_init_25 (by decide) (fun C T n h => by cases h; decide) rfl ⟨rfl, rfl⟩ (Nat.le_of_ble_eq_true rfl) (ws2 := [(h0, .inr (1, [.null, .null, .ref q1, .ref q2, .ref q3, .null, .int 0, .long 0, .long 0, .long 0, .int 0])), (q1, .inl (zz_c E 0, 8, .inl (fun _ => 0))), (q2, .inl (zz_c E 0, 9, .inl (fun _ => 0))), (q3, .inl (zz_c E 1, 34, .inr (.inl (fun _ => 0))))]) rfl ?_
  refine zA_aload_n dX1_init_28 rfl 0 rfl ?_
  refine zA_bipush (v := (34 : Int32)) dX1_init_29 (by decide) ?_
  refine zA_newI (N' := 34) dX1_init_31 (by decide) (by decide) (Nat.le_of_ble_eq_true rfl) (Nat.le_of_ble_eq_true rfl) (Nat.le_of_ble_eq_true rfl) (fun q4 => ?_)
  refine zA_eq (ws2 := [(h0, .inr (1, [.null, .null, .ref q1, .ref q2, .ref q3, .null, .int 0, .long 0, .long 0, .long 0, .int 0])), (q1, .inl (zz_c E 0, 8, .inl (fun _ => 0))), (q2, .inl (zz_c E 0, 9, .inl (fun _ => 0))), (q3, .inl (zz_c E 1, 34, .inr (.inl (fun _ => 0)))), (q4, .inl (zz_c E 0, 34, .inl (fun _ => 0)))]) rfl (zA_cnt (cs2 := 4) (sl2 := 85) rfl rfl ?_)
  refine zA_put (q0 := 0) (fs := [.null, .null, .ref q1, .ref q2, .ref q3, .null, .int 0, .long 0, .long 0, .long 0, .int 0]) fa_X1_22 dX1_init_33 (by decide) (fun C T n h => by cases h; decide) rfl ⟨rfl, rfl⟩ (Nat.le_of_ble_eq_true rfl) (ws2 := [(h0, .inr (1, [.null, .null, .ref q1, .ref q2, .ref q3, .ref q4, .int 0, .long 0, .long 0, .long 0, .int 0])), (q1, .inl (zz_c E 0, 8, .inl (fun _ => 0))), (q2, .inl (zz_c E 0, 9, .inl (fun _ => 0))), (q3, .inl (zz_c E 1, 34, .inr (.inl (fun _ => 0)))), (q4, .inl (zz_c E 0, 34, .inl (fun _ => 0)))]) rfl ?_
  refine zA_aload_n dX1_init_36 rfl 0 rfl ?_
  refine zA_aload_n dX1_init_37 rfl 1 rfl ?_
  refine zA_put (q0 := 0) (fs := [.null, .null, .ref q1, .ref q2, .ref q3, .ref q4, .int 0, .long 0, .long 0, .long 0, .int 0]) fa_X1_25 dX1_init_38 (by decide) (fun C T n h => by cases h; decide) rfl ⟨rfl, rfl⟩ (Nat.le_of_ble_eq_true rfl) (ws2 := [(h0, .inr (1, [.ref p1, .null, .ref q1, .ref q2, .ref q3, .ref q4, .int 0, .long 0, .long 0, .long 0, .int 0])), (q1, .inl (zz_c E 0, 8, .inl (fun _ => 0))), (q2, .inl (zz_c E 0, 9, .inl (fun _ => 0))), (q3, .inl (zz_c E 1, 34, .inr (.inl (fun _ => 0)))), (q4, .inl (zz_c E 0, 34, .inl (fun _ => 0)))]) rfl ?_
  refine zA_aload_n dX1_init_41 rfl 0 rfl ?_
  refine zA_aload_n dX1_init_42 rfl 2 rfl ?_
  refine zA_put (q0 := 0) (fs := [.ref p1, .null, .ref q1, .ref q2, .ref q3, .ref q4, .int 0, .long 0, .long 0, .long 0, .int 0]) fa_X1_29 dX1_init_43 (by decide) (fun C T n h => by cases h; decide) rfl ⟨rfl, rfl⟩ (Nat.le_of_ble_eq_true rfl) (ws2 := [(h0, .inr (1, [.ref p1, .ref p2, .ref q1, .ref q2, .ref q3, .ref q4, .int 0, .long 0, .long 0, .long 0, .int 0])), (q1, .inl (zz_c E 0, 8, .inl (fun _ => 0))), (q2, .inl (zz_c E 0, 9, .inl (fun _ => 0))), (q3, .inl (zz_c E 1, 34, .inr (.inl (fun _ => 0)))), (q4, .inl (zz_c E 0, 34, .inl (fun _ => 0)))]) rfl ?_
  exact zA_ret (ws' := []) dX1_init_46 rfl rfl rfl ⟨q1, q2, q3, q4, rfl⟩
theorem dX2_init_0 : decode cX2_init 0 = .ok (.aload_n 0, 1) := by decide +kernel
theorem dX2_init_1 : decode cX2_init 1 = .ok (.invokespecial 3, 3) := by decide +kernel
theorem dX2_init_4 : decode cX2_init 4 = .ok (.aload_n 0, 1) := by decide +kernel
theorem dX2_init_5 : decode cX2_init 5 = .ok (.bipush 9, 2) := by decide +kernel
theorem dX2_init_7 : decode cX2_init 7 = .ok (.newarray .long, 2) := by decide +kernel
theorem dX2_init_9 : decode cX2_init 9 = .ok (.putfield 9, 3) := by decide +kernel
theorem dX2_init_12 : decode cX2_init 12 = .ok (.aload_n 0, 1) := by decide +kernel
theorem dX2_init_13 : decode cX2_init 13 = .ok (.bipush 9, 2) := by decide +kernel
theorem dX2_init_15 : decode cX2_init 15 = .ok (.newarray .long, 2) := by decide +kernel
theorem dX2_init_17 : decode cX2_init 17 = .ok (.putfield 15, 3) := by decide +kernel
theorem dX2_init_20 : decode cX2_init 20 = .ok (.aload_n 0, 1) := by decide +kernel
theorem dX2_init_21 : decode cX2_init 21 = .ok (.aload_n 1, 1) := by decide +kernel
theorem dX2_init_22 : decode cX2_init 22 = .ok (.putfield 18, 3) := by decide +kernel
theorem dX2_init_25 : decode cX2_init 25 = .ok (.aload_n 0, 1) := by decide +kernel
theorem dX2_init_26 : decode cX2_init 26 = .ok (.aload_n 2, 1) := by decide +kernel
theorem dX2_init_27 : decode cX2_init 27 = .ok (.putfield 22, 3) := by decide +kernel
theorem dX2_init_30 : decode cX2_init 30 = .ok (.aload_n 0, 1) := by decide +kernel
theorem dX2_init_31 : decode cX2_init 31 = .ok (.aload_n 3, 1) := by decide +kernel
theorem dX2_init_32 : decode cX2_init 32 = .ok (.putfield 26, 3) := by decide +kernel
theorem dX2_init_35 : decode cX2_init 35 = .ok (.return_, 1) := by decide +kernel
set_option maxRecDepth 20000 in
theorem c_X2_init {l : Launch} {E : zz_G} (h0 p1 p2 p3 : Nat) : zA_Con l E mX2_init 1 2 18 [.ref h0, .ref p1, .ref p2, .ref p3] [(h0, .inr (2, [.null, .null, .null, .null, .null]))] (fun ws => ∃ q1 q2 : Nat, ws = [(h0, .inr (2, [.ref p1,.ref p2,.ref p3,.ref q1,.ref q2])), (q1, .inl (zz_c E 1, 9, .inr (.inl (fun _ => 0)))), (q2, .inl (zz_c E 1, 9, .inr (.inl (fun _ => 0))))]) none := by
  refine zA_con (lv := [(0, .ref h0), (1, .ref p1), (2, .ref p2), (3, .ref p3)]) (by decide +kernel) (Nat.le_of_ble_eq_true rfl) rfl ?_
  refine zA_aload_n dX2_init_0 rfl 0 rfl ?_
  refine zA_objInit dX2_init_1 lo_X2_3 (Nat.le_of_ble_eq_true rfl) (Nat.le_of_ble_eq_true rfl) ?_
  refine zA_aload_n dX2_init_4 rfl 0 rfl ?_
  refine zA_bipush (v := (9 : Int32)) dX2_init_5 (by decide) ?_
  refine zA_newJ (N' := 9) dX2_init_7 (by decide) (by decide) (Nat.le_of_ble_eq_true rfl) (Nat.le_of_ble_eq_true rfl) (Nat.le_of_ble_eq_true rfl) (fun q1 => ?_)
  refine zA_eq (ws2 := [(h0, .inr (2, [.null, .null, .null, .null, .null])), (q1, .inl (zz_c E 1, 9, .inr (.inl (fun _ => 0))))]) rfl (zA_cnt (cs2 := 1) (sl2 := 9) rfl rfl ?_)
  refine zA_put (q0 := 0) (fs := [.null, .null, .null, .null, .null]) fa_X2_9 dX2_init_9 (by decide) (fun C T n h => by cases h; decide) rfl ⟨rfl, rfl⟩ (Nat.le_of_ble_eq_true rfl) (ws2 := [(h0, .inr (2, [.null, .null, .null, .ref q1, .null])), (q1, .inl (zz_c E 1, 9, .inr (.inl (fun _ => 0))))]) rfl ?_
  refine zA_aload_n dX2_init_12 rfl 0 rfl ?_
  refine zA_bipush (v := (9 : Int32)) dX2_init_13 (by decide) ?_
  refine zA_newJ (N' := 9) dX2_init_15 (by decide) (by decide) (Nat.le_of_ble_eq_true rfl) (Nat.le_of_ble_eq_true rfl) (Nat.le_of_ble_eq_true rfl) (fun q2 => ?_)
  refine zA_eq (ws2 := [(h0, .inr (2, [.null, .null, .null, .ref q1, .null])), (q1, .inl (zz_c E 1, 9, .inr (.inl (fun _ => 0)))), (q2, .inl (zz_c E 1, 9, .inr (.inl (fun _ => 0))))]) rfl (zA_cnt (cs2 := 2) (sl2 := 18) rfl rfl ?_)
  refine zA_put (q0 := 0) (fs := [.null, .null, .null, .ref q1, .null]) fa_X2_15 dX2_init_17 (by decide) (fun C T n h => by cases h; decide) rfl ⟨rfl, rfl⟩ (Nat.le_of_ble_eq_true rfl) (ws2 := [(h0, .inr (2, [.null, .null, .null, .ref q1, .ref q2])), (q1, .inl (zz_c E 1, 9, .inr (.inl (fun _ => 0)))), (q2, .inl (zz_c E 1, 9, .inr (.inl (fun _ => 0))))]) rfl ?_
  refine zA_aload_n dX2_init_20 rfl 0 rfl ?_
  refine zA_aload_n dX2_init_21 rfl 1 rfl ?_
  refine zA_put (q0 := 0) (fs := [.null, .null, .null, .ref q1, .ref q2]) fa_X2_18 dX2_init_22 (by decide) (fun C T n h => by cases h; decide) rfl ⟨rfl, rfl⟩ (Nat.le_of_ble_eq_true rfl) (ws2 := [(h0, .inr (2, [.ref p1, .null, .null, .ref q1, .ref q2])), (q1, .inl (zz_c E 1, 9, .inr (.inl (fun _ => 0)))), (q2, .inl (zz_c E 1, 9, .inr (.inl (fun _ => 0))))]) rfl ?_
  refine zA_aload_n dX2_init_25 rfl 0 rfl ?_
  refine zA_aload_n dX2_init_26 rfl 2 rfl ?_
  refine zA_put (q0 := 0) (fs := [.ref p1, .null, .null, .ref q1, .ref q2]) fa_X2_22 dX2_init_27 (by decide) (fun C T n h => by cases h; decide) rfl ⟨rfl, rfl⟩ (Nat.le_of_ble_eq_true rfl) (ws2 := [(h0, .inr (2, [.ref p1, .ref p2, .null, .ref q1, .ref q2])), (q1, .inl (zz_c E 1, 9, .inr (.inl (fun _ => 0)))), (q2, .inl (zz_c E 1, 9, .inr (.inl (fun _ => 0))))]) rfl ?_
  refine zA_aload_n dX2_init_30 rfl 0 rfl ?_
  refine zA_aload_n dX2_init_31 rfl 3 rfl ?_
  refine zA_put (q0 := 0) (fs := [.ref p1, .ref p2, .null, .ref q1, .ref q2]) fa_X2_26 dX2_init_32 (by decide) (fun C T n h => by cases h; decide) rfl ⟨rfl, rfl⟩ (Nat.le_of_ble_eq_true rfl) (ws2 := [(h0, .inr (2, [.ref p1, .ref p2, .ref p3, .ref q1, .ref q2])), (q1, .inl (zz_c E 1, 9, .inr (.inl (fun _ => 0)))), (q2, .inl (zz_c E 1, 9, .inr (.inl (fun _ => 0))))]) rfl ?_
  exact zA_ret (ws' := []) dX2_init_35 rfl rfl rfl ⟨q1, q2, rfl⟩
theorem dX4_init_0 : decode cX4_init 0 = .ok (.aload_n 0, 1) := by decide +kernel
theorem dX4_init_1 : decode cX4_init 1 = .ok (.invokespecial 3, 3) := by decide +kernel
theorem dX4_init_4 : decode cX4_init 4 = .ok (.aload_n 0, 1) := by decide +kernel
theorem dX4_init_5 : decode cX4_init 5 = .ok (.iconst 3, 1) := by decide +kernel
theorem dX4_init_6 : decode cX4_init 6 = .ok (.newarray .int, 2) := by decide +kernel
theorem dX4_init_8 : decode cX4_init 8 = .ok (.putfield 9, 3) := by decide +kernel
theorem dX4_init_11 : decode cX4_init 11 = .ok (.aload_n 0, 1) := by decide +kernel
theorem dX4_init_12 : decode cX4_init 12 = .ok (.aload_n 1, 1) := by decide +kernel
theorem dX4_init_13 : decode cX4_init 13 = .ok (.putfield 15, 3) := by decide +kernel
theorem dX4_init_16 : decode cX4_init 16 = .ok (.aload_n 0, 1) := by decide +kernel
theorem dX4_init_17 : decode cX4_init 17 = .ok (.aload_n 2, 1) := by decide +kernel
theorem dX4_init_18 : decode cX4_init 18 = .ok (.putfield 19, 3) := by decide +kernel
theorem dX4_init_21 : decode cX4_init 21 = .ok (.aload_n 0, 1) := by decide +kernel
theorem dX4_init_22 : decode cX4_init 22 = .ok (.aload_n 3, 1) := by decide +kernel
theorem dX4_init_23 : decode cX4_init 23 = .ok (.putfield 23, 3) := by decide +kernel
theorem dX4_init_26 : decode cX4_init 26 = .ok (.return_, 1) := by decide +kernel
set_option maxRecDepth 20000 in
theorem c_X4_init {l : Launch} {E : zz_G} (h0 p1 p2 p3 : Nat) : zA_Con l E mX4_init 1 1 3 [.ref h0, .ref p1, .ref p2, .ref p3] [(h0, .inr (4, [.null, .null, .null, .null, .long 0, .long 0, .long 0]))] (fun ws => ∃ q1 : Nat, ws = [(h0, .inr (4, [.ref p1,.ref p2,.ref p3,.ref q1,.long 0,.long 0,.long 0])), (q1, .inl (zz_c E 0, 3, .inl (fun _ => 0)))]) none := by
  refine zA_con (lv := [(0, .ref h0), (1, .ref p1), (2, .ref p2), (3, .ref p3)]) (by decide +kernel) (Nat.le_of_ble_eq_true rfl) rfl ?_
  refine zA_aload_n dX4_init_0 rfl 0 rfl ?_
  refine zA_objInit dX4_init_1 lo_X4_3 (Nat.le_of_ble_eq_true rfl) (Nat.le_of_ble_eq_true rfl) ?_
  refine zA_aload_n dX4_init_4 rfl 0 rfl ?_
  refine zA_iconst (v := (3 : Int32)) dX4_init_5 (by decide) ?_
  refine zA_newI (N' := 3) dX4_init_6 (by decide) (by decide) (Nat.le_of_ble_eq_true rfl) (Nat.le_of_ble_eq_true rfl) (Nat.le_of_ble_eq_true rfl) (fun q1 => ?_)
  refine zA_eq (ws2 := [(h0, .inr (4, [.null, .null, .null, .null, .long 0, .long 0, .long 0])), (q1, .inl (zz_c E 0, 3, .inl (fun _ => 0)))]) rfl (zA_cnt (cs2 := 1) (sl2 := 3) rfl rfl ?_)
  refine zA_put (q0 := 0) (fs := [.null, .null, .null, .null, .long 0, .long 0, .long 0]) fa_X4_9 dX4_init_8 (by decide) (fun C T n h => by cases h; decide) rfl ⟨rfl, rfl⟩ (Nat.le_of_ble_eq_true rfl) (ws2 := [(h0, .inr (4, [.null, .null, .null, .ref q1, .long 0, .long 0, .long 0])), (q1, .inl (zz_c E 0, 3, .inl (fun _ => 0)))]) rfl ?_
  refine zA_aload_n dX4_init_11 rfl 0 rfl ?_
  refine zA_aload_n dX4_init_12 rfl 1 rfl ?_
  refine zA_put (q0 := 0) (fs := [.null, .null, .null, .ref q1, .long 0, .long 0, .long 0]) fa_X4_15 dX4_init_13 (by decide) (fun C T n h => by cases h; decide) rfl ⟨rfl, rfl⟩ (Nat.le_of_ble_eq_true rfl) (ws2 := [(h0, .inr (4, [.ref p1, .null, .null, .ref q1, .long 0, .long 0, .long 0])), (q1, .inl (zz_c E 0, 3, .inl (fun _ => 0)))]) rfl ?_
  refine zA_aload_n dX4_init_16 rfl 0 rfl ?_
  refine zA_aload_n dX4_init_17 rfl 2 rfl ?_
  refine zA_put (q0 := 0) (fs := [.ref p1, .null, .null, .ref q1, .long 0, .long 0, .long 0]) fa_X4_19 dX4_init_18 (by decide) (fun C T n h => by cases h; decide) rfl ⟨rfl, rfl⟩ (Nat.le_of_ble_eq_true rfl) (ws2 := [(h0, .inr (4, [.ref p1, .ref p2, .null, .ref q1, .long 0, .long 0, .long 0])), (q1, .inl (zz_c E 0, 3, .inl (fun _ => 0)))]) rfl ?_
  refine zA_aload_n dX4_init_21 rfl 0 rfl ?_
  refine zA_aload_n dX4_init_22 rfl 3 rfl ?_
  refine zA_put (q0 := 0) (fs := [.ref p1, .ref p2, .null, .ref q1, .long 0, .long 0, .long 0]) fa_X4_23 dX4_init_23 (by decide) (fun C T n h => by cases h; decide) rfl ⟨rfl, rfl⟩ (Nat.le_of_ble_eq_true rfl) (ws2 := [(h0, .inr (4, [.ref p1, .ref p2, .ref p3, .ref q1, .long 0, .long 0, .long 0])), (q1, .inl (zz_c E 0, 3, .inl (fun _ => 0)))]) rfl ?_
  exact zA_ret (ws' := []) dX4_init_26 rfl rfl rfl ⟨q1, rfl⟩
theorem dX6_init_0 : decode cX6_init 0 = .ok (.aload_n 0, 1) := by decide +kernel
theorem dX6_init_1 : decode cX6_init 1 = .ok (.invokespecial 3, 3) := by decide +kernel
theorem dX6_init_4 : decode cX6_init 4 = .ok (.aload_n 0, 1) := by decide +kernel
theorem dX6_init_5 : decode cX6_init 5 = .ok (.bipush 12, 2) := by decide +kernel
theorem dX6_init_7 : decode cX6_init 7 = .ok (.newarray .int, 2) := by decide +kernel
theorem dX6_init_9 : decode cX6_init 9 = .ok (.putfield 9, 3) := by decide +kernel
theorem dX6_init_12 : decode cX6_init 12 = .ok (.aload_n 0, 1) := by decide +kernel
theorem dX6_init_13 : decode cX6_init 13 = .ok (.bipush 8, 2) := by decide +kernel
theorem dX6_init_15 : decode cX6_init 15 = .ok (.newarray .int, 2) := by decide +kernel
theorem dX6_init_17 : decode cX6_init 17 = .ok (.putfield 15, 3) := by decide +kernel
theorem dX6_init_20 : decode cX6_init 20 = .ok (.aload_n 0, 1) := by decide +kernel
theorem dX6_init_21 : decode cX6_init 21 = .ok (.bipush 8, 2) := by decide +kernel
theorem dX6_init_23 : decode cX6_init 23 = .ok (.newarray .int, 2) := by decide +kernel
theorem dX6_init_25 : decode cX6_init 25 = .ok (.putfield 18, 3) := by decide +kernel
theorem dX6_init_28 : decode cX6_init 28 = .ok (.aload_n 0, 1) := by decide +kernel
theorem dX6_init_29 : decode cX6_init 29 = .ok (.bipush 8, 2) := by decide +kernel
theorem dX6_init_31 : decode cX6_init 31 = .ok (.newarray .int, 2) := by decide +kernel
theorem dX6_init_33 : decode cX6_init 33 = .ok (.putfield 21, 3) := by decide +kernel
theorem dX6_init_36 : decode cX6_init 36 = .ok (.aload_n 0, 1) := by decide +kernel
theorem dX6_init_37 : decode cX6_init 37 = .ok (.bipush 8, 2) := by decide +kernel
theorem dX6_init_39 : decode cX6_init 39 = .ok (.newarray .int, 2) := by decide +kernel
theorem dX6_init_41 : decode cX6_init 41 = .ok (.putfield 24, 3) := by decide +kernel
theorem dX6_init_44 : decode cX6_init 44 = .ok (.aload_n 0, 1) := by decide +kernel
theorem dX6_init_45 : decode cX6_init 45 = .ok (.bipush 10, 2) := by decide +kernel
theorem dX6_init_47 : decode cX6_init 47 = .ok (.newarray .int, 2) := by decide +kernel
theorem dX6_init_49 : decode cX6_init 49 = .ok (.putfield 27, 3) := by decide +kernel
theorem dX6_init_52 : decode cX6_init 52 = .ok (.aload_n 0, 1) := by decide +kernel
theorem dX6_init_53 : decode cX6_init 53 = .ok (.new 30, 3) := by decide +kernel
theorem dX6_init_56 : decode cX6_init 56 = .ok (.dup, 1) := by decide +kernel
theorem dX6_init_57 : decode cX6_init 57 = .ok (.invokespecial 32, 3) := by decide +kernel
theorem dX6_init_60 : decode cX6_init 60 = .ok (.putfield 33, 3) := by decide +kernel
theorem dX6_init_63 : decode cX6_init 63 = .ok (.aload_n 0, 1) := by decide +kernel
theorem dX6_init_64 : decode cX6_init 64 = .ok (.new 37, 3) := by decide +kernel
theorem dX6_init_67 : decode cX6_init 67 = .ok (.dup, 1) := by decide +kernel
theorem dX6_init_68 : decode cX6_init 68 = .ok (.invokespecial 39, 3) := by decide +kernel
theorem dX6_init_71 : decode cX6_init 71 = .ok (.putfield 40, 3) := by decide +kernel
theorem dX6_init_74 : decode cX6_init 74 = .ok (.return_, 1) := by decide +kernel
set_option maxRecDepth 20000 in
theorem c_X6_init {l : Launch} {E : zz_G} (h0 : Nat) : zA_Con l E mX6_init 2 13 1052 [.ref h0] [(h0, .inr (6, [.int 0, .int 0, .int 0, .int 0, .null, .int 0, .null, .null, .null, .null, .int 0, .null, .null, .null]))] (fun ws => ∃ q1 q2 q3 q4 q5 q6 q7 q8 q9 q10 q11 q12 q13 : Nat, ws = [(h0, .inr (6, [.int 0,.int 0,.int 0,.int 0,.ref q1,.int 0,.ref q2,.ref q3,.ref q4,.ref q5,.int 0,.ref q6,.ref q7,.ref q11])), (q1, .inl (zz_c E 0, 12, .inl (fun _ => 0))), (q2, .inl (zz_c E 0, 8, .inl (fun _ => 0))), (q3, .inl (zz_c E 0, 8, .inl (fun _ => 0))), (q4, .inl (zz_c E 0, 8, .inl (fun _ => 0))), (q5, .inl (zz_c E 0, 8, .inl (fun _ => 0))), (q6, .inl (zz_c E 0, 10, .inl (fun _ => 0))), (q7, .inr (3, [.ref q8, .ref q9, .ref q10, .int 0, .int 0, .int 0, .int 0, .int 0])), (q8, .inl (zz_c E 0, 900, .inl (fun _ => 0))), (q9, .inl (zz_c E 0, 5, .inl (fun _ => 0))), (q10, .inl (zz_c E 0, 64, .inl (fun _ => 0))), (q11, .inr (9, [.ref q12, .ref q13, .int 0])), (q12, .inl (zz_c E 0, 8, .inl (fun _ => 0))), (q13, .inl (zz_c E 0, 10, .inl (fun _ => 0)))]) none := by
  refine zA_con (lv := [(0, .ref h0)]) (by decide +kernel) (Nat.le_of_ble_eq_true rfl) rfl ?_
  refine zA_aload_n dX6_init_0 rfl 0 rfl ?_
  refine zA_objInit dX6_init_1 lo_X6_3 (Nat.le_of_ble_eq_true rfl) (Nat.le_of_ble_eq_true rfl) ?_
  refine zA_aload_n dX6_init_4 rfl 0 rfl ?_
  refine zA_bipush (v := (12 : Int32)) dX6_init_5 (by decide) ?_
  refine zA_newI (N' := 12) dX6_init_7 (by decide) (by decide) (Nat.le_of_ble_eq_true rfl) (Nat.le_of_ble_eq_true rfl) (Nat.le_of_ble_eq_true rfl) (fun q1 => ?_)
  refine zA_eq (ws2 := [(h0, .inr (6, [.int 0, .int 0, .int 0, .int 0, .null, .int 0, .null, .null, .null, .null, .int 0, .null, .null, .null])), (q1, .inl (zz_c E 0, 12, .inl (fun _ => 0)))]) rfl (zA_cnt (cs2 := 1) (sl2 := 12) rfl rfl ?_)
  refine zA_put (q0 := 0) (fs := [.int 0, .int 0, .int 0, .int 0, .null, .int 0, .null, .null, .null, .null, .int 0, .null, .null, .null]) fa_X6_9 dX6_init_9 (by decide) (fun C T n h => by cases h; decide) rfl ⟨rfl, rfl⟩ (Nat.le_of_ble_eq_true rfl) (ws2 := [(h0, .inr (6, [.int 0, .int 0, .int 0, .int 0, .ref q1, .int 0, .null, .null, .null, .null, .int 0, .null, .null, .null])), (q1, .inl (zz_c E 0, 12, .inl (fun _ => 0)))]) rfl ?_
  refine zA_aload_n dX6_init_12 rfl 0 rfl ?_
  refine zA_bipush (v := (8 : Int32)) dX6_init_13 (by decide) ?_
  refine zA_newI (N' := 8) dX6_init_15 (by decide) (by decide) (Nat.le_of_ble_eq_true rfl) (Nat.le_of_ble_eq_true rfl) (Nat.le_of_ble_eq_true rfl) (fun q2 => ?_)
  refine zA_eq (ws2 := [(h0, .inr (6, [.int 0, .int 0, .int 0, .int 0, .ref q1, .int 0, .null, .null, .null, .null, .int 0, .null, .null, .null])), (q1, .inl (zz_c E 0, 12, .inl (fun _ => 0))), (q2, .inl (zz_c E 0, 8, .inl (fun _ => 0)))]) rfl (zA_cnt (cs2 := 2) (sl2 := 20) rfl rfl ?_)
  refine zA_put (q0 := 0) (fs := [.int 0, .int 0, .int 0, .int 0, .ref q1, .int 0, .null, .null, .null, .null, .int 0, .null, .null, .null]) fa_X6_15 dX6_init_17 (by decide) (fun C T n h => by cases h; decide) rfl ⟨rfl, rfl⟩ (Nat.le_of_ble_eq_true rfl) (ws2 := [(h0, .inr (6, [.int 0, .int 0, .int 0, .int 0, .ref q1, .int 0, .ref q2, .null, .null, .null, .int 0, .null, .null, .null])), (q1, .inl (zz_c E 0, 12, .inl (fun _ => 0))), (q2, .inl (zz_c E 0, 8, .inl (fun _ => 0)))]) rfl ?_
  refine zA_aload_n dX6_init_20 rfl 0 rfl ?_
  refine zA_bipush (v := (8 : Int32)) dX6_init_21 (by decide) ?_
  refine zA_newI (N' := 8) dX6_init_23 (by decide) (by decide) (Nat.le_of_ble_eq_true rfl) (Nat.le_of_ble_eq_true rfl) (Nat.le_of_ble_eq_true rfl) (fun q3 => ?_)
  refine zA_eq (ws2 := [(h0, .inr (6, [.int 0, .int 0, .int 0, .int 0, .ref q1, .int 0, .ref q2, .null, .null, .null, .int 0, .null, .null, .null])), (q1, .inl (zz_c E 0, 12, .inl (fun _ => 0))), (q2, .inl (zz_c E 0, 8, .inl (fun _ => 0))), (q3, .inl (zz_c E 0, 8, .inl (fun _ => 0)))]) rfl (zA_cnt (cs2 := 3) (sl2 := 28) rfl rfl ?_)
  refine zA_put (q0 := 0) (fs := [.int 0, .int 0, .int 0, .int 0, .ref q1, .int 0, .ref q2, .null, .null, .null, .int 0, .null, .null, .null]) fa_X6_18 dX6_init_25 (by decide) (fun C T n h => by cases h; decide) rfl ⟨rfl, rfl⟩ (Nat.le_of_ble_eq_true rfl) (ws2 := [(h0, .inr (6, [.int 0, .int 0, .int 0, .int 0, .ref q1, .int 0, .ref q2, .ref q3, .null, .null, .int 0, .null, .null, .null])), (q1, .inl (zz_c E 0, 12, .inl (fun _ => 0))), (q2, .inl (zz_c E 0, 8, .inl (fun _ => 0))), (q3, .inl (zz_c E 0, 8, .inl (fun _ => 0)))]) rfl ?_
  refine zA_aload_n dX6_init_28 rfl 0 rfl ?_
  refine zA_bipush (v := (8 : Int32)) dX6_init_29 (by decide) ?_
  refine zA_newI (N' := 8) dX6_init_31 (by decide) (by decide) (Nat.le_of_ble_eq_true rfl) (Nat.le_of_ble_eq_true rfl) (Nat.le_of_ble_eq_true rfl) (fun q4 => ?_)
  refine zA_eq (ws2 := [(h0, .inr (6, [.int 0, .int 0, .int 0, .int 0, .ref q1, .int 0, .ref q2, .ref q3, .null, .null, .int 0, .null, .null, .null])), (q1, .inl (zz_c E 0, 12, .inl (fun _ => 0))), (q2, .inl (zz_c E 0, 8, .inl (fun _ => 0))), (q3, .inl (zz_c E 0, 8, .inl (fun _ => 0))), (q4, .inl (zz_c E 0, 8, .inl (fun _ => 0)))]) rfl (zA_cnt (cs2 := 4) (sl2 := 36) rfl rfl ?_)
  refine zA_put (q0 := 0) (fs := [.int 0, .int 0, .int 0, .int 0, .ref q1, .int 0, .ref q2, .ref q3, .null, .null, .int 0, .null, .null, .null]) fa_X6_21 dX6_init_33 (by decide) (fun C T n h => by cases h; decide) rfl ⟨rfl, rfl⟩ (Nat.le_of_ble_eq_true rfl) (ws2 := [(h0, .inr (6, [.int 0, .int 0, .int 0, .int 0, .ref q1, .int 0, .ref q2, .ref q3, .ref q4, .null, .int 0, .null, .null, .null])), (q1, .inl (zz_c E 0, 12, .inl (fun _ => 0))), (q2, .inl (zz_c E 0, 8, .inl (fun _ => 0))), (q3, .inl (zz_c E 0, 8, .inl (fun _ => 0))), (q4, .inl (zz_c E 0, 8, .inl (fun _ => 0)))]) rfl ?_
  refine zA_aload_n dX6_init_36 rfl 0 rfl ?_
  refine zA_bipush (v := (8 : Int32)) dX6_init_37 (by decide) ?_
  refine zA_newI (N' := 8) dX6_init_39 (by decide) (by decide) (Nat.le_of_ble_eq_true rfl) (Nat.le_of_ble_eq_true rfl) (Nat.le_of_ble_eq_true rfl) (fun q5 => ?_)
  refine zA_eq (ws2 := [(h0, .inr (6, [.int 0, .int 0, .int 0, .int 0, .ref q1, .int 0, .ref q2, .ref q3, .ref q4, .null, .int 0, .null, .null, .null])), (q1, .inl (zz_c E 0, 12, .inl (fun _ => 0))), (q2, .inl (zz_c E 0, 8, .inl (fun _ => 0))), (q3, .inl (zz_c E 0, 8, .inl (fun _ => 0))), (q4, .inl (zz_c E 0, 8, .inl (fun _ => 0))), (q5, .inl (zz_c E 0, 8, .inl (fun _ => 0)))]) rfl (zA_cnt (cs2 := 5) (sl2 := 44) rfl rfl ?_)
  refine zA_put (q0 := 0) (fs := [.int 0, .int 0, .int 0, .int 0, .ref q1, .int 0, .ref q2, .ref q3, .ref q4, .null, .int 0, .null, .null, .null]) fa_X6_24 dX6_init_41 (by decide) (fun C T n h => by cases h; decide) rfl ⟨rfl, rfl⟩ (Nat.le_of_ble_eq_true rfl) (ws2 := [(h0, .inr (6, [.int 0, .int 0, .int 0, .int 0, .ref q1, .int 0, .ref q2, .ref q3, .ref q4, .ref q5, .int 0, .null, .null, .null])), (q1, .inl (zz_c E 0, 12, .inl (fun _ => 0))), (q2, .inl (zz_c E 0, 8, .inl (fun _ => 0))), (q3, .inl (zz_c E 0, 8, .inl (fun _ => 0))), (q4, .inl (zz_c E 0, 8, .inl (fun _ => 0))), (q5, .inl (zz_c E 0, 8, .inl (fun _ => 0)))]) rfl ?_
  refine zA_aload_n dX6_init_44 rfl 0 rfl ?_
  refine zA_bipush (v := (10 : Int32)) dX6_init_45 (by decide) ?_
  refine zA_newI (N' := 10) dX6_init_47 (by decide) (by decide) (Nat.le_of_ble_eq_true rfl) (Nat.le_of_ble_eq_true rfl) (Nat.le_of_ble_eq_true rfl) (fun q6 => ?_)
  refine zA_eq (ws2 := [(h0, .inr (6, [.int 0, .int 0, .int 0, .int 0, .ref q1, .int 0, .ref q2, .ref q3, .ref q4, .ref q5, .int 0, .null, .null, .null])), (q1, .inl (zz_c E 0, 12, .inl (fun _ => 0))), (q2, .inl (zz_c E 0, 8, .inl (fun _ => 0))), (q3, .inl (zz_c E 0, 8, .inl (fun _ => 0))), (q4, .inl (zz_c E 0, 8, .inl (fun _ => 0))), (q5, .inl (zz_c E 0, 8, .inl (fun _ => 0))), (q6, .inl (zz_c E 0, 10, .inl (fun _ => 0)))]) rfl (zA_cnt (cs2 := 6) (sl2 := 54) rfl rfl ?_)
  refine zA_put (q0 := 0) (fs := [.int 0, .int 0, .int 0, .int 0, .ref q1, .int 0, .ref q2, .ref q3, .ref q4, .ref q5, .int 0, .null, .null, .null]) fa_X6_27 dX6_init_49 (by decide) (fun C T n h => by cases h; decide) rfl ⟨rfl, rfl⟩ (Nat.le_of_ble_eq_true rfl) (ws2 := [(h0, .inr (6, [.int 0, .int 0, .int 0, .int 0, .ref q1, .int 0, .ref q2, .ref q3, .ref q4, .ref q5, .int 0, .ref q6, .null, .null])), (q1, .inl (zz_c E 0, 12, .inl (fun _ => 0))), (q2, .inl (zz_c E 0, 8, .inl (fun _ => 0))), (q3, .inl (zz_c E 0, 8, .inl (fun _ => 0))), (q4, .inl (zz_c E 0, 8, .inl (fun _ => 0))), (q5, .inl (zz_c E 0, 8, .inl (fun _ => 0))), (q6, .inl (zz_c E 0, 10, .inl (fun _ => 0)))]) rfl ?_
  refine zA_aload_n dX6_init_52 rfl 0 rfl ?_
  refine zA_new nw_X6_30 dX6_init_53 (Nat.le_of_ble_eq_true rfl) (Nat.le_of_ble_eq_true rfl) (fun q7 => ?_)
  refine zA_eq (ws2 := [(h0, .inr (6, [.int 0, .int 0, .int 0, .int 0, .ref q1, .int 0, .ref q2, .ref q3, .ref q4, .ref q5, .int 0, .ref q6, .null, .null])), (q1, .inl (zz_c E 0, 12, .inl (fun _ => 0))), (q2, .inl (zz_c E 0, 8, .inl (fun _ => 0))), (q3, .inl (zz_c E 0, 8, .inl (fun _ => 0))), (q4, .inl (zz_c E 0, 8, .inl (fun _ => 0))), (q5, .inl (zz_c E 0, 8, .inl (fun _ => 0))), (q6, .inl (zz_c E 0, 10, .inl (fun _ => 0))), (q7, .inr (3, [.null, .null, .null, .int 0, .int 0, .int 0, .int 0, .int 0]))]) rfl (zA_cnt (cs2 := 7) (sl2 := 62) rfl rfl ?_)
  refine zA_dup dX6_init_56 rfl ?_
  refine zA_eq (ws2 := [(h0, .inr (6, [.int 0, .int 0, .int 0, .int 0, .ref q1, .int 0, .ref q2, .ref q3, .ref q4, .ref q5, .int 0, .ref q6, .null, .null])), (q1, .inl (zz_c E 0, 12, .inl (fun _ => 0))), (q2, .inl (zz_c E 0, 8, .inl (fun _ => 0))), (q3, .inl (zz_c E 0, 8, .inl (fun _ => 0))), (q4, .inl (zz_c E 0, 8, .inl (fun _ => 0))), (q5, .inl (zz_c E 0, 8, .inl (fun _ => 0))), (q6, .inl (zz_c E 0, 10, .inl (fun _ => 0)))] ++ [(q7, .inr (3, [.null, .null, .null, .int 0, .int 0, .int 0, .int 0, .int 0]))]) rfl ?_
  refine zA_callN (rest := [.ref q7, .ref h0]) (c_X3_init q7) dX6_init_57 lin_X6_32 (Nat.le_of_ble_eq_true rfl) rfl rfl (Nat.le_of_ble_eq_true rfl) (Nat.le_of_ble_eq_true rfl) (Nat.le_of_ble_eq_true rfl) (fun ws1 hB1 => ?_)
  obtain ⟨q8, q9, q10, rfl⟩ := hB1
  refine zA_eq (ws2 := [(h0, .inr (6, [.int 0, .int 0, .int 0, .int 0, .ref q1, .int 0, .ref q2, .ref q3, .ref q4, .ref q5, .int 0, .ref q6, .null, .null])), (q1, .inl (zz_c E 0, 12, .inl (fun _ => 0))), (q2, .inl (zz_c E 0, 8, .inl (fun _ => 0))), (q3, .inl (zz_c E 0, 8, .inl (fun _ => 0))), (q4, .inl (zz_c E 0, 8, .inl (fun _ => 0))), (q5, .inl (zz_c E 0, 8, .inl (fun _ => 0))), (q6, .inl (zz_c E 0, 10, .inl (fun _ => 0))), (q7, .inr (3, [.ref q8, .ref q9, .ref q10, .int 0, .int 0, .int 0, .int 0, .int 0])), (q8, .inl (zz_c E 0, 900, .inl (fun _ => 0))), (q9, .inl (zz_c E 0, 5, .inl (fun _ => 0))), (q10, .inl (zz_c E 0, 64, .inl (fun _ => 0)))]) rfl (zA_cnt (cs2 := 10) (sl2 := 1031) rfl rfl ?_)
  refine zA_put (q0 := 0) (fs := [.int 0, .int 0, .int 0, .int 0, .ref q1, .int 0, .ref q2, .ref q3, .ref q4, .ref q5, .int 0, .ref q6, .null, .null]) fa_X6_33 dX6_init_60 (by decide) (fun C T n h => by cases h; decide) rfl ⟨rfl, rfl⟩ (Nat.le_of_ble_eq_true rfl) (ws2 := [(h0, .inr (6, [.int 0, .int 0, .int 0, .int 0, .ref q1, .int 0, .ref q2, .ref q3, .ref q4, .ref q5, .int 0, .ref q6, .ref q7, .null])), (q1, .inl (zz_c E 0, 12, .inl (fun _ => 0))), (q2, .inl (zz_c E 0, 8, .inl (fun _ => 0))), (q3, .inl (zz_c E 0, 8, .inl (fun _ => 0))), (q4, .inl (zz_c E 0, 8, .inl (fun _ => 0))), (q5, .inl (zz_c E 0, 8, .inl (fun _ => 0))), (q6, .inl (zz_c E 0, 10, .inl (fun _ => 0))), (q7, .inr (3, [.ref q8, .ref q9, .ref q10, .int 0, .int 0, .int 0, .int 0, .int 0])), (q8, .inl (zz_c E 0, 900, .inl (fun _ => 0))), (q9, .inl (zz_c E 0, 5, .inl (fun _ => 0))), (q10, .inl (zz_c E 0, 64, .inl (fun _ => 0)))]) rfl ?_
  refine zA_aload_n dX6_init_63 rfl 0 rfl ?_
  refine zA_new nw_X6_37 dX6_init_64 (Nat.le_of_ble_eq_true rfl) (Nat.le_of_ble_eq_true rfl) (fun q11 => ?_)
  refine zA_eq (ws2 := [(h0, .inr (6, [.int 0, .int 0, .int 0, .int 0, .ref q1, .int 0, .ref q2, .ref q3, .ref q4, .ref q5, .int 0, .ref q6, .ref q7, .null])), (q1, .inl (zz_c E 0, 12, .inl (fun _ => 0))), (q2, .inl (zz_c E 0, 8, .inl (fun _ => 0))), (q3, .inl (zz_c E 0, 8, .inl (fun _ => 0))), (q4, .inl (zz_c E 0, 8, .inl (fun _ => 0))), (q5, .inl (zz_c E 0, 8, .inl (fun _ => 0))), (q6, .inl (zz_c E 0, 10, .inl (fun _ => 0))), (q7, .inr (3, [.ref q8, .ref q9, .ref q10, .int 0, .int 0, .int 0, .int 0, .int 0])), (q8, .inl (zz_c E 0, 900, .inl (fun _ => 0))), (q9, .inl (zz_c E 0, 5, .inl (fun _ => 0))), (q10, .inl (zz_c E 0, 64, .inl (fun _ => 0))), (q11, .inr (9, [.null, .null, .int 0]))]) rfl (zA_cnt (cs2 := 11) (sl2 := 1034) rfl rfl ?_)
  refine zA_dup dX6_init_67 rfl ?_
  refine zA_eq (ws2 := [(h0, .inr (6, [.int 0, .int 0, .int 0, .int 0, .ref q1, .int 0, .ref q2, .ref q3, .ref q4, .ref q5, .int 0, .ref q6, .ref q7, .null])), (q1, .inl (zz_c E 0, 12, .inl (fun _ => 0))), (q2, .inl (zz_c E 0, 8, .inl (fun _ => 0))), (q3, .inl (zz_c E 0, 8, .inl (fun _ => 0))), (q4, .inl (zz_c E 0, 8, .inl (fun _ => 0))), (q5, .inl (zz_c E 0, 8, .inl (fun _ => 0))), (q6, .inl (zz_c E 0, 10, .inl (fun _ => 0))), (q7, .inr (3, [.ref q8, .ref q9, .ref q10, .int 0, .int 0, .int 0, .int 0, .int 0])), (q8, .inl (zz_c E 0, 900, .inl (fun _ => 0))), (q9, .inl (zz_c E 0, 5, .inl (fun _ => 0))), (q10, .inl (zz_c E 0, 64, .inl (fun _ => 0)))] ++ [(q11, .inr (9, [.null, .null, .int 0]))]) rfl ?_
  refine zA_callN (rest := [.ref q11, .ref h0]) (c_X9_init q11) dX6_init_68 lin_X6_39 (Nat.le_of_ble_eq_true rfl) rfl rfl (Nat.le_of_ble_eq_true rfl) (Nat.le_of_ble_eq_true rfl) (Nat.le_of_ble_eq_true rfl) (fun ws1 hB1 => ?_)
  obtain ⟨q12, q13, rfl⟩ := hB1
  refine zA_eq (ws2 := [(h0, .inr (6, [.int 0, .int 0, .int 0, .int 0, .ref q1, .int 0, .ref q2, .ref q3, .ref q4, .ref q5, .int 0, .ref q6, .ref q7, .null])), (q1, .inl (zz_c E 0, 12, .inl (fun _ => 0))), (q2, .inl (zz_c E 0, 8, .inl (fun _ => 0))), (q3, .inl (zz_c E 0, 8, .inl (fun _ => 0))), (q4, .inl (zz_c E 0, 8, .inl (fun _ => 0))), (q5, .inl (zz_c E 0, 8, .inl (fun _ => 0))), (q6, .inl (zz_c E 0, 10, .inl (fun _ => 0))), (q7, .inr (3, [.ref q8, .ref q9, .ref q10, .int 0, .int 0, .int 0, .int 0, .int 0])), (q8, .inl (zz_c E 0, 900, .inl (fun _ => 0))), (q9, .inl (zz_c E 0, 5, .inl (fun _ => 0))), (q10, .inl (zz_c E 0, 64, .inl (fun _ => 0))), (q11, .inr (9, [.ref q12, .ref q13, .int 0])), (q12, .inl (zz_c E 0, 8, .inl (fun _ => 0))), (q13, .inl (zz_c E 0, 10, .inl (fun _ => 0)))]) rfl (zA_cnt (cs2 := 13) (sl2 := 1052) rfl rfl ?_)
  refine zA_put (q0 := 0) (fs := [.int 0, .int 0, .int 0, .int 0, .ref q1, .int 0, .ref q2, .ref q3, .ref q4, .ref q5, .int 0, .ref q6, .ref q7, .null]) fa_X6_40 dX6_init_71 (by decide) (fun C T n h => by cases h; decide) rfl ⟨rfl, rfl⟩ (Nat.le_of_ble_eq_true rfl) (ws2 := [(h0, .inr (6, [.int 0, .int 0, .int 0, .int 0, .ref q1, .int 0, .ref q2, .ref q3, .ref q4, .ref q5, .int 0, .ref q6, .ref q7, .ref q11])), (q1, .inl (zz_c E 0, 12, .inl (fun _ => 0))), (q2, .inl (zz_c E 0, 8, .inl (fun _ => 0))), (q3, .inl (zz_c E 0, 8, .inl (fun _ => 0))), (q4, .inl (zz_c E 0, 8, .inl (fun _ => 0))), (q5, .inl (zz_c E 0, 8, .inl (fun _ => 0))), (q6, .inl (zz_c E 0, 10, .inl (fun _ => 0))), (q7, .inr (3, [.ref q8, .ref q9, .ref q10, .int 0, .int 0, .int 0, .int 0, .int 0])), (q8, .inl (zz_c E 0, 900, .inl (fun _ => 0))), (q9, .inl (zz_c E 0, 5, .inl (fun _ => 0))), (q10, .inl (zz_c E 0, 64, .inl (fun _ => 0))), (q11, .inr (9, [.ref q12, .ref q13, .int 0])), (q12, .inl (zz_c E 0, 8, .inl (fun _ => 0))), (q13, .inl (zz_c E 0, 10, .inl (fun _ => 0)))]) rfl ?_
  exact zA_ret (ws' := []) dX6_init_74 rfl rfl rfl ⟨q1, q2, q3, q4, q5, q6, q7, q8, q9, q10, q11, q12, q13, rfl⟩
theorem dX5_init_0 : decode cX5_init 0 = .ok (.aload_n 0, 1) := by decide +kernel
theorem dX5_init_1 : decode cX5_init 1 = .ok (.invokespecial 3, 3) := by decide +kernel
theorem dX5_init_4 : decode cX5_init 4 = .ok (.aload_n 0, 1) := by decide +kernel
theorem dX5_init_5 : decode cX5_init 5 = .ok (.bipush 10, 2) := by decide +kernel
theorem dX5_init_7 : decode cX5_init 7 = .ok (.anewarray 9, 3) := by decide +kernel
theorem dX5_init_10 : decode cX5_init 10 = .ok (.putfield 11, 3) := by decide +kernel
theorem dX5_init_13 : decode cX5_init 13 = .ok (.iconst 0, 1) := by decide +kernel
theorem dX5_init_14 : decode cX5_init 14 = .ok (.istore_n 1, 1) := by decide +kernel
theorem dX5_init_15 : decode cX5_init 15 = .ok (.iload_n 1, 1) := by decide +kernel
theorem dX5_init_16 : decode cX5_init 16 = .ok (.aload_n 0, 1) := by decide +kernel
theorem dX5_init_17 : decode cX5_init 17 = .ok (.getfield 11, 3) := by decide +kernel
theorem dX5_init_20 : decode cX5_init 20 = .ok (.arraylength, 1) := by decide +kernel
theorem dX5_init_21 : decode cX5_init 21 = .ok (.if_icmp .ge 22, 3) := by decide +kernel
theorem dX5_init_24 : decode cX5_init 24 = .ok (.aload_n 0, 1) := by decide +kernel
theorem dX5_init_25 : decode cX5_init 25 = .ok (.getfield 11, 3) := by decide +kernel
theorem dX5_init_28 : decode cX5_init 28 = .ok (.iload_n 1, 1) := by decide +kernel
theorem dX5_init_29 : decode cX5_init 29 = .ok (.new 9, 3) := by decide +kernel
theorem dX5_init_32 : decode cX5_init 32 = .ok (.dup, 1) := by decide +kernel
theorem dX5_init_33 : decode cX5_init 33 = .ok (.invokespecial 17, 3) := by decide +kernel
theorem dX5_init_36 : decode cX5_init 36 = .ok (.aastore, 1) := by decide +kernel
theorem dX5_init_37 : decode cX5_init 37 = .ok (.iinc 1 1, 3) := by decide +kernel
theorem dX5_init_40 : decode cX5_init 40 = .ok (.goto (-25), 3) := by decide +kernel
theorem dX5_init_43 : decode cX5_init 43 = .ok (.return_, 1) := by decide +kernel
set_option maxRecDepth 20000 in
theorem c_X5_init {l : Launch} {E : zz_G} (h0 : Nat) : zA_Con l E mX5_init 2 31 220 [.ref h0] [(h0, .inr (5, [.null, .int 0, .int 0]))] (fun ws => ∃ q1 q2 q3 q4 q5 q6 q7 q8 q9 q10 q11 q12 q13 q14 q15 q16 q17 q18 q19 q20 q21 q22 q23 q24 q25 q26 q27 q28 q29 q30 q31 : Nat, ws = [(h0, .inr (5, [.ref q1,.int 0,.int 0])), (q1, .inl (zz_c E 4, 10, .inr (.inr (.inr (.inr (va_up (va_up (va_up (va_up (va_up (va_up (va_up (va_up (va_up (va_up (fun _ => none) 0 (some q2)) 1 (some q5)) 2 (some q8)) 3 (some q11)) 4 (some q14)) 5 (some q17)) 6 (some q20)) 7 (some q23)) 8 (some q26)) 9 (some q29))))))), (q2, .inr (9, [.ref q3, .ref q4, .int 0])), (q3, .inl (zz_c E 0, 8, .inl (fun _ => 0))), (q4, .inl (zz_c E 0, 10, .inl (fun _ => 0))), (q5, .inr (9, [.ref q6, .ref q7, .int 0])), (q6, .inl (zz_c E 0, 8, .inl (fun _ => 0))), (q7, .inl (zz_c E 0, 10, .inl (fun _ => 0))), (q8, .inr (9, [.ref q9, .ref q10, .int 0])), (q9, .inl (zz_c E 0, 8, .inl (fun _ => 0))), (q10, .inl (zz_c E 0, 10, .inl (fun _ => 0))), (q11, .inr (9, [.ref q12, .ref q13, .int 0])), (q12, .inl (zz_c E 0, 8, .inl (fun _ => 0))), (q13, .inl (zz_c E 0, 10, .inl (fun _ => 0))), (q14, .inr (9, [.ref q15, .ref q16, .int 0])), (q15, .inl (zz_c E 0, 8, .inl (fun _ => 0))), (q16, .inl (zz_c E 0, 10, .inl (fun _ => 0))), (q17, .inr (9, [.ref q18, .ref q19, .int 0])), (q18, .inl (zz_c E 0, 8, .inl (fun _ => 0))), (q19, .inl (zz_c E 0, 10, .inl (fun _ => 0))), (q20, .inr (9, [.ref q21, .ref q22, .int 0])), (q21, .inl (zz_c E 0, 8, .inl (fun _ => 0))), (q22, .inl (zz_c E 0, 10, .inl (fun _ => 0))), (q23, .inr (9, [.ref q24, .ref q25, .int 0])), (q24, .inl (zz_c E 0, 8, .inl (fun _ => 0))), (q25, .inl (zz_c E 0, 10, .inl (fun _ => 0))), (q26, .inr (9, [.ref q27, .ref q28, .int 0])), (q27, .inl (zz_c E 0, 8, .inl (fun _ => 0))), (q28, .inl (zz_c E 0, 10, .inl (fun _ => 0))), (q29, .inr (9, [.ref q30, .ref q31, .int 0])), (q30, .inl (zz_c E 0, 8, .inl (fun _ => 0))), (q31, .inl (zz_c E 0, 10, .inl (fun _ => 0)))]) none := by
  refine zA_con (lv := [(0, .ref h0)]) (by decide +kernel) (Nat.le_of_ble_eq_true rfl) rfl ?_
  refine zA_aload_n dX5_init_0 rfl 0 rfl ?_
  refine zA_objInit dX5_init_1 lo_X5_3 (Nat.le_of_ble_eq_true rfl) (Nat.le_of_ble_eq_true rfl) ?_
  refine zA_aload_n dX5_init_4 rfl 0 rfl ?_
  refine zA_bipush (v := (10 : Int32)) dX5_init_5 (by decide) ?_
  refine zA_newq4 (N' := 10) dX5_init_7 (zz_mem 373 (by decide +kernel) rfl) (by decide) (by decide) (Nat.le_of_ble_eq_true rfl) (Nat.le_of_ble_eq_true rfl) (Nat.le_of_ble_eq_true rfl) (fun q1 => ?_)
  refine zA_eq (ws2 := [(h0, .inr (5, [.null, .int 0, .int 0])), (q1, .inl (zz_c E 4, 10, .inr (.inr (.inr (.inr (fun _ => none))))))]) rfl (zA_cnt (cs2 := 1) (sl2 := 10) rfl rfl ?_)
  refine zA_put (q0 := 0) (fs := [.null, .int 0, .int 0]) fa_X5_11 dX5_init_10 (by decide) (fun C T n h => by cases h; decide) rfl ⟨rfl, rfl⟩ (Nat.le_of_ble_eq_true rfl) (ws2 := [(h0, .inr (5, [.ref q1, .int 0, .int 0])), (q1, .inl (zz_c E 4, 10, .inr (.inr (.inr (.inr (fun _ => none))))))]) rfl ?_
  refine zA_iconst (v := (0 : Int32)) dX5_init_13 (by decide) ?_
  refine zA_istore_n [(1, .int (0 : Int32)), (0, .ref h0)] dX5_init_14 rfl (Nat.le_of_ble_eq_true rfl) rfl ?_
  refine zA_iload_n dX5_init_15 rfl 0 rfl ?_
  refine zA_aload_n dX5_init_16 rfl 1 rfl ?_
  refine zA_get (q0 := 0) (fs := [.ref q1, .int 0, .int 0]) fa_X5_11 dX5_init_17 rfl rfl ?_
  refine zA_alen4 (q0 := 1) (v := (10 : Int32)) dX5_init_20 rfl (by decide) ?_
  refine zA_geF (tgt := 43) dX5_init_21 (by decide) (by decide) ?_
  refine zA_aload_n dX5_init_24 rfl 1 rfl ?_
  refine zA_get (q0 := 0) (fs := [.ref q1, .int 0, .int 0]) fa_X5_11 dX5_init_25 rfl rfl ?_
  refine zA_iload_n dX5_init_28 rfl 0 rfl ?_
  refine zA_new nw_X5_9 dX5_init_29 (Nat.le_of_ble_eq_true rfl) (Nat.le_of_ble_eq_true rfl) (fun q2 => ?_)
  refine zA_eq (ws2 := [(h0, .inr (5, [.ref q1, .int 0, .int 0])), (q1, .inl (zz_c E 4, 10, .inr (.inr (.inr (.inr (fun _ => none)))))), (q2, .inr (9, [.null, .null, .int 0]))]) rfl (zA_cnt (cs2 := 2) (sl2 := 13) rfl rfl ?_)
  refine zA_dup dX5_init_32 rfl ?_
  refine zA_eq (ws2 := [(h0, .inr (5, [.ref q1, .int 0, .int 0])), (q1, .inl (zz_c E 4, 10, .inr (.inr (.inr (.inr (fun _ => none))))))] ++ [(q2, .inr (9, [.null, .null, .int 0]))]) rfl ?_
  refine zA_callN (rest := [.ref q2, .int (0 : Int32), .ref q1]) (c_X9_init q2) dX5_init_33 lin_X5_17 (Nat.le_of_ble_eq_true rfl) rfl rfl (Nat.le_of_ble_eq_true rfl) (Nat.le_of_ble_eq_true rfl) (Nat.le_of_ble_eq_true rfl) (fun ws1 hB1 => ?_)
  obtain ⟨q3, q4, rfl⟩ := hB1
  refine zA_eq (ws2 := [(h0, .inr (5, [.ref q1, .int 0, .int 0])), (q1, .inl (zz_c E 4, 10, .inr (.inr (.inr (.inr (fun _ => none)))))), (q2, .inr (9, [.ref q3, .ref q4, .int 0])), (q3, .inl (zz_c E 0, 8, .inl (fun _ => 0))), (q4, .inl (zz_c E 0, 10, .inl (fun _ => 0)))]) rfl (zA_cnt (cs2 := 4) (sl2 := 31) rfl rfl ?_)
  refine zA_aast4 (q0 := 1) (qk := 2) dX5_init_36 rfl rfl rfl (zz_vin (by decide) (by decide)) (ws2 := [(h0, .inr (5, [.ref q1, .int 0, .int 0])), (q1, .inl (zz_c E 4, 10, .inr (.inr (.inr (.inr (va_up (fun _ => none) 0 (some q2))))))), (q2, .inr (9, [.ref q3, .ref q4, .int 0])), (q3, .inl (zz_c E 0, 8, .inl (fun _ => 0))), (q4, .inl (zz_c E 0, 10, .inl (fun _ => 0)))]) rfl ?_
  refine zA_iinc (v := (1 : Int32)) [(1, .int (1 : Int32)), (0, .ref h0)] dX5_init_37 0 rfl (by decide) (Nat.le_of_ble_eq_true rfl) rfl ?_
  refine zA_goto (tgt := 15) dX5_init_40 (by decide) ?_
  refine zA_iload_n dX5_init_15 rfl 0 rfl ?_
  refine zA_aload_n dX5_init_16 rfl 1 rfl ?_
  refine zA_get (q0 := 0) (fs := [.ref q1, .int 0, .int 0]) fa_X5_11 dX5_init_17 rfl rfl ?_
  refine zA_alen4 (q0 := 1) (v := (10 : Int32)) dX5_init_20 rfl (by decide) ?_
  refine zA_geF (tgt := 43) dX5_init_21 (by decide) (by decide) ?_
  refine zA_aload_n dX5_init_24 rfl 1 rfl ?_
  refine zA_get (q0 := 0) (fs := [.ref q1, .int 0, .int 0]) fa_X5_11 dX5_init_25 rfl rfl ?_
  refine zA_iload_n dX5_init_28 rfl 0 rfl ?_
  refine zA_new nw_X5_9 dX5_init_29 (Nat.le_of_ble_eq_true rfl) (Nat.le_of_ble_eq_true rfl) (fun q5 => ?_)
  refine zA_eq (ws2 := [(h0, .inr (5, [.ref q1, .int 0, .int 0])), (q1, .inl (zz_c E 4, 10, .inr (.inr (.inr (.inr (va_up (fun _ => none) 0 (some q2))))))), (q2, .inr (9, [.ref q3, .ref q4, .int 0])), (q3, .inl (zz_c E 0, 8, .inl (fun _ => 0))), (q4, .inl (zz_c E 0, 10, .inl (fun _ => 0))), (q5, .inr (9, [.null, .null, .int 0]))]) rfl (zA_cnt (cs2 := 5) (sl2 := 34) rfl rfl ?_)
  refine zA_dup dX5_init_32 rfl ?_
  refine zA_eq (ws2 := [(h0, .inr (5, [.ref q1, .int 0, .int 0])), (q1, .inl (zz_c E 4, 10, .inr (.inr (.inr (.inr (va_up (fun _ => none) 0 (some q2))))))), (q2, .inr (9, [.ref q3, .ref q4, .int 0])), (q3, .inl (zz_c E 0, 8, .inl (fun _ => 0))), (q4, .inl (zz_c E 0, 10, .inl (fun _ => 0)))] ++ [(q5, .inr (9, [.null, .null, .int 0]))]) rfl ?_
  refine zA_callN (rest := [.ref q5, .int (1 : Int32), .ref q1]) (c_X9_init q5) dX5_init_33 lin_X5_17 (Nat.le_of_ble_eq_true rfl) rfl rfl (Nat.le_of_ble_eq_true rfl) (Nat.le_of_ble_eq_true rfl) (Nat.le_of_ble_eq_true rfl) (fun ws1 hB1 => ?_)
  obtain ⟨q6, q7, rfl⟩ := hB1
  refine zA_eq (ws2 := [(h0, .inr (5, [.ref q1, .int 0, .int 0])), (q1, .inl (zz_c E 4, 10, .inr (.inr (.inr (.inr (va_up (fun _ => none) 0 (some q2))))))), (q2, .inr (9, [.ref q3, .ref q4, .int 0])), (q3, .inl (zz_c E 0, 8, .inl (fun _ => 0))), (q4, .inl (zz_c E 0, 10, .inl (fun _ => 0))), (q5, .inr (9, [.ref q6, .ref q7, .int 0])), (q6, .inl (zz_c E 0, 8, .inl (fun _ => 0))), (q7, .inl (zz_c E 0, 10, .inl (fun _ => 0)))]) rfl (zA_cnt (cs2 := 7) (sl2 := 52) rfl rfl ?_)
  refine zA_aast4 (q0 := 1) (qk := 5) dX5_init_36 rfl rfl rfl (zz_vin (by decide) (by decide)) (ws2 := [(h0, .inr (5, [.ref q1, .int 0, .int 0])), (q1, .inl (zz_c E 4, 10, .inr (.inr (.inr (.inr (va_up (va_up (fun _ => none) 0 (some q2)) 1 (some q5))))))), (q2, .inr (9, [.ref q3, .ref q4, .int 0])), (q3, .inl (zz_c E 0, 8, .inl (fun _ => 0))), (q4, .inl (zz_c E 0, 10, .inl (fun _ => 0))), (q5, .inr (9, [.ref q6, .ref q7, .int 0])), (q6, .inl (zz_c E 0, 8, .inl (fun _ => 0))), (q7, .inl (zz_c E 0, 10, .inl (fun _ => 0)))]) rfl ?_
  refine zA_iinc (v := (2 : Int32)) [(1, .int (2 : Int32)), (0, .ref h0)] dX5_init_37 0 rfl (by decide) (Nat.le_of_ble_eq_true rfl) rfl ?_
  refine zA_goto (tgt := 15) dX5_init_40 (by decide) ?_
  refine zA_iload_n dX5_init_15 rfl 0 rfl ?_
  refine zA_aload_n dX5_init_16 rfl 1 rfl ?_
  refine zA_get (q0 := 0) (fs := [.ref q1, .int 0, .int 0]) fa_X5_11 dX5_init_17 rfl rfl ?_
  refine zA_alen4 (q0 := 1) (v := (10 : Int32)) dX5_init_20 rfl (by decide) ?_
  refine zA_geF (tgt := 43) dX5_init_21 (by decide) (by decide) ?_
  refine zA_aload_n dX5_init_24 rfl 1 rfl ?_
  refine zA_get (q0 := 0) (fs := [.ref q1, .int 0, .int 0]) fa_X5_11 dX5_init_25 rfl rfl ?_
  refine zA_iload_n dX5_init_28 rfl 0 rfl ?_
  refine zA_new nw_X5_9 dX5_init_29 (Nat.le_of_ble_eq_true rfl) (Nat.le_of_ble_eq_true rfl) (fun q8 => ?_)
  refine zA_eq (ws2 := [(h0, .inr (5, [.ref q1, .int 0, .int 0])), (q1, .inl (zz_c E 4, 10, .inr (.inr (.inr (.inr (va_up (va_up (fun _ => none) 0 (some q2)) 1 (some q5))))))), (q2, .inr (9, [.ref q3, .ref q4, .int 0])), (q3, .inl (zz_c E 0, 8, .inl (fun _ => 0))), (q4, .inl (zz_c E 0, 10, .inl (fun _ => 0))), (q5, .inr (9, [.ref q6, .ref q7, .int 0])), (q6, .inl (zz_c E 0, 8, .inl (fun _ => 0))), (q7, .inl (zz_c E 0, 10, .inl (fun _ => 0))), (q8, .inr (9, [.null, .null, .int 0]))]) rfl (zA_cnt (cs2 := 8) (sl2 := 55) rfl rfl ?_)
  refine zA_dup dX5_init_32 rfl ?_
  refine zA_eq (ws2 := [(h0, .inr (5, [.ref q1, .int 0, .int 0])), (q1, .inl (zz_c E 4, 10, .inr (.inr (.inr (.inr (va_up (va_up (fun _ => none) 0 (some q2)) 1 (some q5))))))), (q2, .inr (9, [.ref q3, .ref q4, .int 0])), (q3, .inl (zz_c E 0, 8, .inl (fun _ => 0))), (q4, .inl (zz_c E 0, 10, .inl (fun _ => 0))), (q5, .inr (9, [.ref q6, .ref q7, .int 0])), (q6, .inl (zz_c E 0, 8, .inl (fun _ => 0))), (q7, .inl (zz_c E 0, 10, .inl (fun _ => 0)))] ++ [(q8, .inr (9, [.null, .null, .int 0]))]) rfl ?_
  refine zA_callN (rest := [.ref q8, .int (2 : Int32), .ref q1]) (c_X9_init q8) dX5_init_33 lin_X5_17 (Nat.le_of_ble_eq_true rfl) rfl rfl (Nat.le_of_ble_eq_true rfl) (Nat.le_of_ble_eq_true rfl) (Nat.le_of_ble_eq_true rfl) (fun ws1 hB1 => ?_)
  obtain ⟨q9, q10, rfl⟩ := hB1
  refine zA_eq (ws2 := [(h0, .inr (5, [.ref q1, .int 0, .int 0])), (q1, .inl (zz_c E 4, 10, .inr (.inr (.inr (.inr (va_up (va_up (fun _ => none) 0 (some q2)) 1 (some q5))))))), (q2, .inr (9, [.ref q3, .ref q4, .int 0])), (q3, .inl (zz_c E 0, 8, .inl (fun _ => 0))), (q4, .inl (zz_c E 0, 10, .inl (fun _ => 0))), (q5, .inr (9, [.ref q6, .ref q7, .int 0])), (q6, .inl (zz_c E 0, 8, .inl (fun _ => 0))), (q7, .inl (zz_c E 0, 10, .inl (fun _ => 0))), (q8, .inr (9, [.ref q9, .ref q10, .int 0])), (q9, .inl (zz_c E 0, 8, .inl (fun _ => 0))), (q10, .inl (zz_c E 0, 10, .inl (fun _ => 0)))]) rfl (zA_cnt (cs2 := 10) (sl2 := 73) rfl rfl ?_)
  refine zA_aast4 (q0 := 1) (qk := 8) dX5_init_36 rfl rfl rfl (zz_vin (by decide) (by decide)) (ws2 := [(h0, .inr (5, [.ref q1, .int 0, .int 0])), (q1, .inl (zz_c E 4, 10, .inr (.inr (.inr (.inr (va_up (va_up (va_up (fun _ => none) 0 (some q2)) 1 (some q5)) 2 (some q8))))))), (q2, .inr (9, [.ref q3, .ref q4, .int 0])), (q3, .inl (zz_c E 0, 8, .inl (fun _ => 0))), (q4, .inl (zz_c E 0, 10, .inl (fun _ => 0))), (q5, .inr (9, [.ref q6, .ref q7, .int 0])), (q6, .inl (zz_c E 0, 8, .inl (fun _ => 0))), (q7, .inl (zz_c E 0, 10, .inl (fun _ => 0))), (q8, .inr (9, [.ref q9, .ref q10, .int 0])), (q9, .inl (zz_c E 0, 8, .inl (fun _ => 0))), (q10, .inl (zz_c E 0, 10, .inl (fun _ => 0)))]) rfl ?_
  refine zA_iinc (v := (3 : Int32)) [(1, .int (3 : Int32)), (0, .ref h0)] dX5_init_37 0 rfl (by decide) (Nat.le_of_ble_eq_true rfl) rfl ?_
  refine zA_goto (tgt := 15) dX5_init_40 (by decide) ?_
  refine zA_iload_n dX5_init_15 rfl 0 rfl ?_
  refine zA_aload_n dX5_init_16 rfl 1 rfl ?_
  refine zA_get (q0 := 0) (fs := [.ref q1, .int 0, .int 0]) fa_X5_11 dX5_init_17 rfl rfl ?_
  refine zA_alen4 (q0 := 1) (v := (10 : Int32)) dX5_init_20 rfl (by decide) ?_
  refine zA_geF (tgt := 43) dX5_init_21 (by decide) (by decide) ?_
  refine zA_aload_n dX5_init_24 rfl 1 rfl ?_
  refine zA_get (q0 := 0) (fs := [.ref q1, .int 0, .int 0]) fa_X5_11 dX5_init_25 rfl rfl ?_
  refine zA_iload_n dX5_init_28 rfl 0 rfl ?_
  refine zA_new nw_X5_9 dX5_init_29 (Nat.le_of_ble_eq_true rfl) (Nat.le_of_ble_eq_true rfl) (fun q11 => ?_)
  refine zA_eq (ws2 := [(h0, .inr (5, [.ref q1, .int 0, .int 0])), (q1, .inl (zz_c E 4, 10, .inr (.inr (.inr (.inr (va_up (va_up (va_up (fun _ => none) 0 (some q2)) 1 (some q5)) 2 (some q8))))))), (q2, .inr (9, [.ref q3, .ref q4, .int 0])), (q3, .inl (zz_c E 0, 8, .inl (fun _ => 0))), (q4, .inl (zz_c E 0, 10, .inl (fun _ => 0))), (q5, .inr (9, [.ref q6, .ref q7, .int 0])), (q6, .inl (zz_c E 0, 8, .inl (fun _ => 0))), (q7, .inl (zz_c E 0, 10, .inl (fun _ => 0))), (q8, .inr (9, [.ref q9, .ref q10, .int 0])), (q9, .inl (zz_c E 0, 8, .inl (fun _ => 0))), (q10, .inl (zz_c E 0, 10, .inl (fun _ => 0))), (q11, .inr (9, [.null, .null, .int 0]))]) rfl (zA_cnt (cs2 := 11) (sl2 := 76) rfl rfl ?_)
  refine zA_dup dX5_init_32 rfl ?_
  refine zA_eq (ws2 := [(h0, .inr (5, [.ref q1, .int 0, .int 0])), (q1, .inl (zz_c E 4, 10, .inr (.inr (.inr (.inr (va_up (va_up (va_up (fun _ => none) 0 (some q2)) 1 (some q5)) 2 (some q8))))))), (q2, .inr (9, [.ref q3, .ref q4, .int 0])), (q3, .inl (zz_c E 0, 8, .inl (fun _ => 0))), (q4, .inl (zz_c E 0, 10, .inl (fun _ => 0))), (q5, .inr (9, [.ref q6, .ref q7, .int 0])), (q6, .inl (zz_c E 0, 8, .inl (fun _ => 0))), (q7, .inl (zz_c E 0, 10, .inl (fun _ => 0))), (q8, .inr (9, [.ref q9, .ref q10, .int 0])), (q9, .inl (zz_c E 0, 8, .inl (fun _ => 0))), (q10, .inl (zz_c E 0, 10, .inl (fun _ => 0)))] ++ [(q11, .inr (9, [.null, .null, .int 0]))]) rfl ?_
  refine zA_callN (rest := [.ref q11, .int (3 : Int32), .ref q1]) (c_X9_init q11) dX5_init_33 lin_X5_17 (Nat.le_of_ble_eq_true rfl) rfl rfl (Nat.le_of_ble_eq_true rfl) (Nat.le_of_ble_eq_true rfl) (Nat.le_of_ble_eq_true rfl) (fun ws1 hB1 => ?_)
  obtain ⟨q12, q13, rfl⟩ := hB1
  refine zA_eq (ws2 := [(h0, .inr (5, [.ref q1, .int 0, .int 0])), (q1, .inl (zz_c E 4, 10, .inr (.inr (.inr (.inr (va_up (va_up (va_up (fun _ => none) 0 (some q2)) 1 (some q5)) 2 (some q8))))))), (q2, .inr (9, [.ref q3, .ref q4, .int 0])), (q3, .inl (zz_c E 0, 8, .inl (fun _ => 0))), (q4, .inl (zz_c E 0, 10, .inl (fun _ => 0))), (q5, .inr (9, [.ref q6, .ref q7, .int 0])), (q6, .inl (zz_c E 0, 8, .inl (fun _ => 0))), (q7, .inl (zz_c E 0, 10, .inl (fun _ => 0))), (q8, .inr (9, [.ref q9, .ref q10, .int 0])), (q9, .inl (zz_c E 0, 8, .inl (fun _ => 0))), (q10, .inl (zz_c E 0, 10, .inl (fun _ => 0))), (q11, .inr (9, [.ref q12, .ref q13, .int 0])), (q12, .inl (zz_c E 0, 8, .inl (fun _ => 0))), (q13, .inl (zz_c E 0, 10, .inl (fun _ => 0)))]) rfl (zA_cnt (cs2 := 13) (sl2 := 94) rfl rfl ?_)
  refine zA_aast4 (q0 := 1) (qk := 11) dX5_init_36 rfl rfl rfl (zz_vin (by decide) (by decide)) (ws2 := [(h0, .inr (5, [.ref q1, .int 0, .int 0])), (q1, .inl (zz_c E 4, 10, .inr (.inr (.inr (.inr (va_up (va_up (va_up (va_up (fun _ => none) 0 (some q2)) 1 (some q5)) 2 (some q8)) 3 (some q11))))))), (q2, .inr (9, [.ref q3, .ref q4, .int 0])), (q3, .inl (zz_c E 0, 8, .inl (fun _ => 0))), (q4, .inl (zz_c E 0, 10, .inl (fun _ => 0))), (q5, .inr (9, [.ref q6, .ref q7, .int 0])), (q6, .inl (zz_c E 0, 8, .inl (fun _ => 0))), (q7, .inl (zz_c E 0, 10, .inl (fun _ => 0))), (q8, .inr (9, [.ref q9, .ref q10, .int 0])), (q9, .inl (zz_c E 0, 8, .inl (fun _ => 0))), (q10, .inl (zz_c E 0, 10, .inl (fun _ => 0))), (q11, .inr (9, [.ref q12, .ref q13, .int 0])), (q12, .inl (zz_c E 0, 8, .inl (fun _ => 0))), (q13, .inl (zz_c E 0, 10, .inl (fun _ => 0)))]) rfl ?_
  refine zA_iinc (v := (4 : Int32)) [(1, .int (4 : Int32)), (0, .ref h0)] dX5_init_37 0 rfl (by decide) (Nat.le_of_ble_eq_true rfl) rfl ?_
  refine zA_goto (tgt := 15) dX5_init_40 (by decide) ?_
  refine zA_iload_n dX5_init_15 rfl 0 rfl ?_
  refine zA_aload_n dX5_init_16 rfl 1 rfl ?_
  refine zA_get (q0 := 0) (fs := [.ref q1, .int 0, .int 0]) fa_X5_11 dX5_init_17 rfl rfl ?_
  refine zA_alen4 (q0 := 1) (v := (10 : Int32)) dX5_init_20 rfl (by decide) ?_
  refine zA_geF (tgt := 43) dX5_init_21 (by decide) (by decide) ?_
  refine zA_aload_n dX5_init_24 rfl 1 rfl ?_
  refine zA_get (q0 := 0) (fs := [.ref q1, .int 0, .int 0]) fa_X5_11 dX5_init_25 rfl rfl ?_
  refine zA_iload_n dX5_init_28 rfl 0 rfl ?_
  refine zA_new nw_X5_9 dX5_init_29 (Nat.le_of_ble_eq_true rfl) (Nat.le_of_ble_eq_true rfl) (fun q14 => ?_)
  refine zA_eq (ws2 := [(h0, .inr (5, [.ref q1, .int 0, .int 0])), (q1, .inl (zz_c E 4, 10, .inr (.inr (.inr (.inr (va_up (va_up (va_up (va_up (fun _ => none) 0 (some q2)) 1 (some q5)) 2 (some q8)) 3 (some q11))))))), (q2, .inr (9, [.ref q3, .ref q4, .int 0])), (q3, .inl (zz_c E 0, 8, .inl (fun _ => 0))), (q4, .inl (zz_c E 0, 10, .inl (fun _ => 0))), (q5, .inr (9, [.ref q6, .ref q7, .int 0])), (q6, .inl (zz_c E 0, 8, .inl (fun _ => 0))), (q7, .inl (zz_c E 0, 10, .inl (fun _ => 0))), (q8, .inr (9, [.ref q9, .ref q10, .int 0])), (q9, .inl (zz_c E 0, 8, .inl (fun _ => 0))), (q10, .inl (zz_c E 0, 10, .inl (fun _ => 0))), (q11, .inr (9, [.ref q12, .ref q13, .int 0])), (q12, .inl (zz_c E 0, 8, .inl (fun _ => 0))), (q13, .inl (zz_c E 0, 10, .inl (fun _ => 0))), (q14, .inr (9, [.null, .null, .int 0]))]) rfl (zA_cnt (cs2 := 14) (sl2 := 97) rfl rfl ?_)
  refine zA_dup dX5_init_32 rfl ?_
  refine zA_eq (ws2 := [(h0, .inr (5, [.ref q1, .int 0, .int 0])), (q1, .inl (zz_c E 4, 10, .inr (.inr (.inr (.inr (va_up (va_up (va_up (va_up (fun _ => none) 0 (some q2)) 1 (some q5)) 2 (some q8)) 3 (some q11))))))), (q2, .inr (9, [.ref q3, .ref q4, .int 0])), (q3, .inl (zz_c E 0, 8, .inl (fun _ => 0))), (q4, .inl (zz_c E 0, 10, .inl (fun _ => 0))), (q5, .inr (9, [.ref q6, .ref q7, .int 0])), (q6, .inl (zz_c E 0, 8, .inl (fun _ => 0))), (q7, .inl (zz_c E 0, 10, .inl (fun _ => 0))), (q8, .inr (9, [.ref q9, .ref q10, .int 0])), (q9, .inl (zz_c E 0, 8, .inl (fun _ => 0))), (q10, .inl (zz_c E 0, 10, .inl (fun _ => 0))), (q11, .inr (9, [.ref q12, .ref q13, .int 0])), (q12, .inl (zz_c E 0, 8, .inl (fun _ => 0))), (q13, .inl (zz_c E 0, 10, .inl (fun _ => 0)))] ++ [(q14, .inr (9, [.null, .null, .int 0]))]) rfl ?_
  refine zA_callN (rest := [.ref q14, .int (4 : Int32), .ref q1]) (c_X9_init q14) dX5_init_33 lin_X5_17 (Nat.le_of_ble_eq_true rfl) rfl rfl (Nat.le_of_ble_eq_true rfl) (Nat.le_of_ble_eq_true rfl) (Nat.le_of_ble_eq_true rfl) (fun ws1 hB1 => ?_)
  obtain ⟨q15, q16, rfl⟩ := hB1
  refine zA_eq (ws2 := [(h0, .inr (5, [.ref q1, .int 0, .int 0])), (q1, .inl (zz_c E 4, 10, .inr (.inr (.inr (.inr (va_up (va_up (va_up (va_up (fun _ => none) 0 (some q2)) 1 (some q5)) 2 (some q8)) 3 (some q11))))))), (q2, .inr (9, [.ref q3, .ref q4, .int 0])), (q3, .inl (zz_c E 0, 8, .inl (fun _ => 0))), (q4, .inl (zz_c E 0, 10, .inl (fun _ => 0))), (q5, .inr (9, [.ref q6, .ref q7, .int 0])), (q6, .inl (zz_c E 0, 8, .inl (fun _ => 0))), (q7, .inl (zz_c E 0, 10, .inl (fun _ => 0))), (q8, .inr (9, [.ref q9, .ref q10, .int 0])), (q9, .inl (zz_c E 0, 8, .inl (fun _ => 0))), (q10, .inl (zz_c E 0, 10, .inl (fun _ => 0))), (q11, .inr (9, [.ref q12, .ref q13, .int 0])), (q12, .inl (zz_c E 0, 8, .inl (fun _ => 0))), (q13, .inl (zz_c E 0, 10, .inl (fun _ => 0))), (q14, .inr (9, [.ref q15, .ref q16, .int 0])), (q15, .inl (zz_c E 0, 8, .inl (fun _ => 0))), (q16, .inl (zz_c E 0, 10, .inl (fun _ => 0)))]) rfl (zA_cnt (cs2 := 16) (sl2 := 115) rfl rfl ?_)
  refine zA_aast4 (q0 := 1) (qk := 14) dX5_init_36 rfl rfl rfl (zz_vin (by decide) (by decide)) (ws2 := [(h0, .inr (5, [.ref q1, .int 0, .int 0])), (q1, .inl (zz_c E 4, 10, .inr (.inr (.inr (.inr (va_up (va_up (va_up (va_up (va_up (fun _ => none) 0 (some q2)) 1 (some q5)) 2 (some q8)) 3 (some q11)) 4 (some q14))))))), (q2, .inr (9, [.ref q3, .ref q4, .int 0])), (q3, .inl (zz_c E 0, 8, .inl (fun _ => 0))), (q4, .inl (zz_c E 0, 10, .inl (fun _ => 0))), (q5, .inr (9, [.ref q6, .ref q7, .int 0])), (q6, .inl (zz_c E 0, 8, .inl (fun _ => 0))), (q7, .inl (zz_c E 0, 10, .inl (fun _ => 0))), (q8, .inr (9, [.ref q9, .ref q10, .int 0])), (q9, .inl (zz_c E 0, 8, .inl (fun _ => 0))), (q10, .inl (zz_c E 0, 10, .inl (fun _ => 0))), (q11, .inr (9, [.ref q12, .ref q13, .int 0])), (q12, .inl (zz_c E 0, 8, .inl (fun _ => 0))), (q13, .inl (zz_c E 0, 10, .inl (fun _ => 0))), (q14, .inr (9, [.ref q15, .ref q16, .int 0])), (q15, .inl (zz_c E 0, 8, .inl (fun _ => 0))), (q16, .inl (zz_c E 0, 10, .inl (fun _ => 0)))]) rfl ?_
  refine zA_iinc (v := (5 : Int32)) [(1, .int (5 : Int32)), (0, .ref h0)] dX5_init_37 0 rfl (by decide) (Nat.le_of_ble_eq_true rfl) rfl ?_
  refine zA_goto (tgt := 15) dX5_init_40 (by decide) ?_
  refine zA_iload_n dX5_init_15 rfl 0 rfl ?_
  refine zA_aload_n dX5_init_16 rfl 1 rfl ?_
  refine zA_get (q0 := 0) (fs := [.ref q1, .int 0, .int 0]) fa_X5_11 dX5_init_17 rfl rfl ?_
  refine zA_alen4 (q0 := 1) (v := (10 : Int32)) dX5_init_20 rfl (by decide) ?_
  refine zA_geF (tgt := 43) dX5_init_21 (by decide) (by decide) ?_
  refine zA_aload_n dX5_init_24 rfl 1 rfl ?_
  refine zA_get (q0 := 0) (fs := [.ref q1, .int 0, .int 0]) fa_X5_11 dX5_init_25 rfl rfl ?_
  refine zA_iload_n dX5_init_28 rfl 0 rfl ?_
  refine zA_new nw_X5_9 dX5_init_29 (Nat.le_of_ble_eq_true rfl) (Nat.le_of_ble_eq_true rfl) (fun q17 => ?_)
  refine zA_eq (ws2 := [(h0, .inr (5, [.ref q1, .int 0, .int 0])), (q1, .inl (zz_c E 4, 10, .inr (.inr (.inr (.inr (va_up (va_up (va_up (va_up (va_up (fun _ => none) 0 (some q2)) 1 (some q5)) 2 (some q8)) 3 (some q11)) 4 (some q14))))))), (q2, .inr (9, [.ref q3, .ref q4, .int 0])), (q3, .inl (zz_c E 0, 8, .inl (fun _ => 0))), (q4, .inl (zz_c E 0, 10, .inl (fun _ => 0))), (q5, .inr (9, [.ref q6, .ref q7, .int 0])), (q6, .inl (zz_c E 0, 8, .inl (fun _ => 0))), (q7, .inl (zz_c E 0, 10, .inl (fun _ => 0))), (q8, .inr (9, [.ref q9, .ref q10, .int 0])), (q9, .inl (zz_c E 0, 8, .inl (fun _ => 0))), (q10, .inl (zz_c E 0, 10, .inl (fun _ => 0))), (q11, .inr (9, [.ref q12, .ref q13, .int 0])), (q12, .inl (zz_c E 0, 8, .inl (fun _ => 0))), (q13, .inl (zz_c E 0, 10, .inl (fun _ => 0))), (q14, .inr (9, [.ref q15, .ref q16, .int 0])), (q15, .inl (zz_c E 0, 8, .inl (fun _ => 0))), (q16, .inl (zz_c E 0, 10, .inl (fun _ => 0))), (q17, .inr (9, [.null, .null, .int 0]))]) rfl (zA_cnt (cs2 := 17) (sl2 := 118) rfl rfl ?_)
  refine zA_dup dX5_init_32 rfl ?_
  refine zA_eq (ws2 := [(h0, .inr (5, [.ref q1, .int 0, .int 0])), (q1, .inl (zz_c E 4, 10, .inr (.inr (.inr (.inr (va_up (va_up (va_up (va_up (va_up (fun _ => none) 0 (some q2)) 1 (some q5)) 2 (some q8)) 3 (some q11)) 4 (some q14))))))), (q2, .inr (9, [.ref q3, .ref q4, .int 0])), (q3, .inl (zz_c E 0, 8, .inl (fun _ => 0))), (q4, .inl (zz_c E 0, 10, .inl (fun _ => 0))), (q5, .inr (9, [.ref q6, .ref q7, .int 0])), (q6, .inl (zz_c E 0, 8, .inl (fun _ => 0))), (q7, .inl (zz_c E 0, 10, .inl (fun _ => 0))), (q8, .inr (9, [.ref q9, .ref q10, .int 0])), (q9, .inl (zz_c E 0, 8, .inl (fun _ => 0))), (q10, .inl (zz_c E 0, 10, .inl (fun _ => 0))), (q11, .inr (9, [.ref q12, .ref q13, .int 0])), (q12, .inl (zz_c E 0, 8, .inl (fun _ => 0))), (q13, .inl (zz_c E 0, 10, .inl (fun _ => 0))), (q14, .inr (9, [.ref q15, .ref q16, .int 0])), (q15, .inl (zz_c E 0, 8, .inl (fun _ => 0))), (q16, .inl (zz_c E 0, 10, .inl (fun _ => 0)))] ++ [(q17, .inr (9, [.null, .null, .int 0]))]) rfl ?_
  refine zA_callN (rest := [.ref q17, .int (5 : Int32), .ref q1]) (c_X9_init q17) dX5_init_33 lin_X5_17 (Nat.le_of_ble_eq_true rfl) rfl rfl (Nat.le_of_ble_eq_true rfl) (Nat.le_of_ble_eq_true rfl) (Nat.le_of_ble_eq_true rfl) (fun ws1 hB1 => ?_)
  obtain ⟨q18, q19, rfl⟩ := hB1
  refine zA_eq (ws2 := [(h0, .inr (5, [.ref q1, .int 0, .int 0])), (q1, .inl (zz_c E 4, 10, .inr (.inr (.inr (.inr (va_up (va_up (va_up (va_up (va_up (fun _ => none) 0 (some q2)) 1 (some q5)) 2 (some q8)) 3 (some q11)) 4 (some q14))))))), (q2, .inr (9, [.ref q3, .ref q4, .int 0])), (q3, .inl (zz_c E 0, 8, .inl (fun _ => 0))), (q4, .inl (zz_c E 0, 10, .inl (fun _ => 0))), (q5, .inr (9, [.ref q6, .ref q7, .int 0])), (q6, .inl (zz_c E 0, 8, .inl (fun _ => 0))), (q7, .inl (zz_c E 0, 10, .inl (fun _ => 0))), (q8, .inr (9, [.ref q9, .ref q10, .int 0])), (q9, .inl (zz_c E 0, 8, .inl (fun _ => 0))), (q10, .inl (zz_c E 0, 10, .inl (fun _ => 0))), (q11, .inr (9, [.ref q12, .ref q13, .int 0])), (q12, .inl (zz_c E 0, 8, .inl (fun _ => 0))), (q13, .inl (zz_c E 0, 10, .inl (fun _ => 0))), (q14, .inr (9, [.ref q15, .ref q16, .int 0])), (q15, .inl (zz_c E 0, 8, .inl (fun _ => 0))), (q16, .inl (zz_c E 0, 10, .inl (fun _ => 0))), (q17, .inr (9, [.ref q18, .ref q19, .int 0])), (q18, .inl (zz_c E 0, 8, .inl (fun _ => 0))), (q19, .inl (zz_c E 0, 10, .inl (fun _ => 0)))]) rfl (zA_cnt (cs2 := 19) (sl2 := 136) rfl rfl ?_)
  refine zA_aast4 (q0 := 1) (qk := 17) dX5_init_36 rfl rfl rfl (zz_vin (by decide) (by decide)) (ws2 := [(h0, .inr (5, [.ref q1, .int 0, .int 0])), (q1, .inl (zz_c E 4, 10, .inr (.inr (.inr (.inr (va_up (va_up (va_up (va_up (va_up (va_up (fun _ => none) 0 (some q2)) 1 (some q5)) 2 (some q8)) 3 (some q11)) 4 (some q14)) 5 (some q17))))))), (q2, .inr (9, [.ref q3, .ref q4, .int 0])), (q3, .inl (zz_c E 0, 8, .inl (fun _ => 0))), (q4, .inl (zz_c E 0, 10, .inl (fun _ => 0))), (q5, .inr (9, [.ref q6, .ref q7, .int 0])), (q6, .inl (zz_c E 0, 8, .inl (fun _ => 0))), (q7, .inl (zz_c E 0, 10, .inl (fun _ => 0))), (q8, .inr (9, [.ref q9, .ref q10, .int 0])), (q9, .inl (zz_c E 0, 8, .inl (fun _ => 0))), (q10, .inl (zz_c E 0, 10, .inl (fun _ => 0))), (q11, .inr (9, [.ref q12, .ref q13, .int 0])), (q12, .inl (zz_c E 0, 8, .inl (fun _ => 0))), (q13, .inl (zz_c E 0, 10, .inl (fun _ => 0))), (q14, .inr (9, [.ref q15, .ref q16, .int 0])), (q15, .inl (zz_c E 0, 8, .inl (fun _ => 0))), (q16, .inl (zz_c E 0, 10, .inl (fun _ => 0))), (q17, .inr (9, [.ref q18, .ref q19, .int 0])), (q18, .inl (zz_c E 0, 8, .inl (fun _ => 0))), (q19, .inl (zz_c E 0, 10, .inl (fun _ => 0)))]) rfl ?_
  refine zA_iinc (v := (6 : Int32)) [(1, .int (6 : Int32)), (0, .ref h0)] dX5_init_37 0 rfl (by decide) (Nat.le_of_ble_eq_true rfl) rfl ?_
  refine zA_goto (tgt := 15) dX5_init_40 (by decide) ?_
  refine zA_iload_n dX5_init_15 rfl 0 rfl ?_
  refine zA_aload_n dX5_init_16 rfl 1 rfl ?_
  refine zA_get (q0 := 0) (fs := [.ref q1, .int 0, .int 0]) fa_X5_11 dX5_init_17 rfl rfl ?_
  refine zA_alen4 (q0 := 1) (v := (10 : Int32)) dX5_init_20 rfl (by decide) ?_
  refine zA_geF (tgt := 43) dX5_init_21 (by decide) (by decide) ?_
  refine zA_aload_n dX5_init_24 rfl 1 rfl ?_
  refine zA_get (q0 := 0) (fs := [.ref q1, .int 0, .int 0]) fa_X5_11 dX5_init_25 rfl rfl ?_
  refine zA_iload_n dX5_init_28 rfl 0 rfl ?_
  refine zA_new nw_X5_9 dX5_init_29 (Nat.le_of_ble_eq_true rfl) (Nat.le_of_ble_eq_true rfl) (fun q20 => ?_)
  refine zA_eq (ws2 := [(h0, .inr (5, [.ref q1, .int 0, .int 0])), (q1, .inl (zz_c E 4, 10, .inr (.inr (.inr (.inr (va_up (va_up (va_up (va_up (va_up (va_up (fun _ => none) 0 (some q2)) 1 (some q5)) 2 (some q8)) 3 (some q11)) 4 (some q14)) 5 (some q17))))))), (q2, .inr (9, [.ref q3, .ref q4, .int 0])), (q3, .inl (zz_c E 0, 8, .inl (fun _ => 0))), (q4, .inl (zz_c E 0, 10, .inl (fun _ => 0))), (q5, .inr (9, [.ref q6, .ref q7, .int 0])), (q6, .inl (zz_c E 0, 8, .inl (fun _ => 0))), (q7, .inl (zz_c E 0, 10, .inl (fun _ => 0))), (q8, .inr (9, [.ref q9, .ref q10, .int 0])), (q9, .inl (zz_c E 0, 8, .inl (fun _ => 0))), (q10, .inl (zz_c E 0, 10, .inl (fun _ => 0))), (q11, .inr (9, [.ref q12, .ref q13, .int 0])), (q12, .inl (zz_c E 0, 8, .inl (fun _ => 0))), (q13, .inl (zz_c E 0, 10, .inl (fun _ => 0))), (q14, .inr (9, [.ref q15, .ref q16, .int 0])), (q15, .inl (zz_c E 0, 8, .inl (fun _ => 0))), (q16, .inl (zz_c E 0, 10, .inl (fun _ => 0))), (q17, .inr (9, [.ref q18, .ref q19, .int 0])), (q18, .inl (zz_c E 0, 8, .inl (fun _ => 0))), (q19, .inl (zz_c E 0, 10, .inl (fun _ => 0))), (q20, .inr (9, [.null, .null, .int 0]))]) rfl (zA_cnt (cs2 := 20) (sl2 := 139) rfl rfl ?_)
  refine zA_dup dX5_init_32 rfl ?_
  refine zA_eq (ws2 := [(h0, .inr (5, [.ref q1, .int 0, .int 0])), (q1, .inl (zz_c E 4, 10, .inr (.inr (.inr (.inr (va_up (va_up (va_up (va_up (va_up (va_up (fun _ => none) 0 (some q2)) 1 (some q5)) 2 (some q8)) 3 (some q11)) 4 (some q14)) 5 (some q17))))))), (q2, .inr (9, [.ref q3, .ref q4, .int 0])), (q3, .inl (zz_c E 0, 8, .inl (fun _ => 0))), (q4, .inl (zz_c E 0, 10, .inl (fun _ => 0))), (q5, .inr (9, [.ref q6, .ref q7, .int 0])), (q6, .inl (zz_c E 0, 8, .inl (fun _ => 0))), (q7, .inl (zz_c E 0, 10, .inl (fun _ => 0))), (q8, .inr (9, [.ref q9, .ref q10, .int 0])), (q9, .inl (zz_c E 0, 8, .inl (fun _ => 0))), (q10, .inl (zz_c E 0, 10, .inl (fun _ => 0))), (q11, .inr (9, [.ref q12, .ref q13, .int 0])), (q12, .inl (zz_c E 0, 8, .inl (fun _ => 0))), (q13, .inl (zz_c E 0, 10, .inl (fun _ => 0))), (q14, .inr (9, [.ref q15, .ref q16, .int 0])), (q15, .inl (zz_c E 0, 8, .inl (fun _ => 0))), (q16, .inl (zz_c E 0, 10, .inl (fun _ => 0))), (q17, .inr (9, [.ref q18, .ref q19, .int 0])), (q18, .inl (zz_c E 0, 8, .inl (fun _ => 0))), (q19, .inl (zz_c E 0, 10, .inl (fun _ => 0)))] ++ [(q20, .inr (9, [.null, .null, .int 0]))]) rfl ?_
  refine zA_callN (rest := [.ref q20, .int (6 : Int32), .ref q1]) (c_X9_init q20) dX5_init_33 lin_X5_17 (Nat.le_of_ble_eq_true rfl) rfl rfl (Nat.le_of_ble_eq_true rfl) (Nat.le_of_ble_eq_true rfl) (Nat.le_of_ble_eq_true rfl) (fun ws1 hB1 => ?_)
  obtain ⟨q21, q22, rfl⟩ := hB1
  refine zA_eq (ws2 := [(h0, .inr (5, [.ref q1, .int 0, .int 0])), (q1, .inl (zz_c E 4, 10, .inr (.inr (.inr (.inr (va_up (va_up (va_up (va_up (va_up (va_up (fun _ => none) 0 (some q2)) 1 (some q5)) 2 (some q8)) 3 (some q11)) 4 (some q14)) 5 (some q17))))))), (q2, .inr (9, [.ref q3, .ref q4, .int 0])), (q3, .inl (zz_c E 0, 8, .inl (fun _ => 0))), (q4, .inl (zz_c E 0, 10, .inl (fun _ => 0))), (q5, .inr (9, [.ref q6, .ref q7, .int 0])), (q6, .inl (zz_c E 0, 8, .inl (fun _ => 0))), (q7, .inl (zz_c E 0, 10, .inl (fun _ => 0))), (q8, .inr (9, [.ref q9, .ref q10, .int 0])), (q9, .inl (zz_c E 0, 8, .inl (fun _ => 0))), (q10, .inl (zz_c E 0, 10, .inl (fun _ => 0))), (q11, .inr (9, [.ref q12, .ref q13, .int 0])), (q12, .inl (zz_c E 0, 8, .inl (fun _ => 0))), (q13, .inl (zz_c E 0, 10, .inl (fun _ => 0))), (q14, .inr (9, [.ref q15, .ref q16, .int 0])), (q15, .inl (zz_c E 0, 8, .inl (fun _ => 0))), (q16, .inl (zz_c E 0, 10, .inl (fun _ => 0))), (q17, .inr (9, [.ref q18, .ref q19, .int 0])), (q18, .inl (zz_c E 0, 8, .inl (fun _ => 0))), (q19, .inl (zz_c E 0, 10, .inl (fun _ => 0))), (q20, .inr (9, [.ref q21, .ref q22, .int 0])), (q21, .inl (zz_c E 0, 8, .inl (fun _ => 0))), (q22, .inl (zz_c E 0, 10, .inl (fun _ => 0)))]) rfl (zA_cnt (cs2 := 22) (sl2 := 157) rfl rfl ?_)
  refine zA_aast4 (q0 := 1) (qk := 20) dX5_init_36 rfl rfl rfl (zz_vin (by decide) (by decide)) (ws2 := [(h0, .inr (5, [.ref q1, .int 0, .int 0])), (q1, .inl (zz_c E 4, 10, .inr (.inr (.inr (.inr (va_up (va_up (va_up (va_up (va_up (va_up (va_up (fun _ => none) 0 (some q2)) 1 (some q5)) 2 (some q8)) 3 (some q11)) 4 (some q14)) 5 (some q17)) 6 (some q20))))))), (q2, .inr (9, [.ref q3, .ref q4, .int 0])), (q3, .inl (zz_c E 0, 8, .inl (fun _ => 0))), (q4, .inl (zz_c E 0, 10, .inl (fun _ => 0))), (q5, .inr (9, [.ref q6, .ref q7, .int 0])), (q6, .inl (zz_c E 0, 8, .inl (fun _ => 0))), (q7, .inl (zz_c E 0, 10, .inl (fun _ => 0))), (q8, .inr (9, [.ref q9, .ref q10, .int 0])), (q9, .inl (zz_c E 0, 8, .inl (fun _ => 0))), (q10, .inl (zz_c E 0, 10, .inl (fun _ => 0))), (q11, .inr (9, [.ref q12, .ref q13, .int 0])), (q12, .inl (zz_c E 0, 8, .inl (fun _ => 0))), (q13, .inl (zz_c E 0, 10, .inl (fun _ => 0))), (q14, .inr (9, [.ref q15, .ref q16, .int 0])), (q15, .inl (zz_c E 0, 8, .inl (fun _ => 0))), (q16, .inl (zz_c E 0, 10, .inl (fun _ => 0))), (q17, .inr (9, [.ref q18, .ref q19, .int 0])), (q18, .inl (zz_c E 0, 8, .inl (fun _ => 0))), (q19, .inl (zz_c E 0, 10, .inl (fun _ => 0))), (q20, .inr (9, [.ref q21, .ref q22, .int 0])), (q21, .inl (zz_c E 0, 8, .inl (fun _ => 0))), (q22, .inl (zz_c E 0, 10, .inl (fun _ => 0)))]) rfl ?_
  refine zA_iinc (v := (7 : Int32)) [(1, .int (7 : Int32)), (0, .ref h0)] dX5_init_37 0 rfl (by decide) (Nat.le_of_ble_eq_true rfl) rfl ?_
  refine zA_goto (tgt := 15) dX5_init_40 (by decide) ?_
  refine zA_iload_n dX5_init_15 rfl 0 rfl ?_
  refine zA_aload_n dX5_init_16 rfl 1 rfl ?_
  refine zA_get (q0 := 0) (fs := [.ref q1, .int 0, .int 0]) fa_X5_11 dX5_init_17 rfl rfl ?_
  refine zA_alen4 (q0 := 1) (v := (10 : Int32)) dX5_init_20 rfl (by decide) ?_
  refine zA_geF (tgt := 43) dX5_init_21 (by decide) (by decide) ?_
  refine zA_aload_n dX5_init_24 rfl 1 rfl ?_
  refine zA_get (q0 := 0) (fs := [.ref q1, .int 0, .int 0]) fa_X5_11 dX5_init_25 rfl rfl ?_
  refine zA_iload_n dX5_init_28 rfl 0 rfl ?_
  refine zA_new nw_X5_9 dX5_init_29 (Nat.le_of_ble_eq_true rfl) (Nat.le_of_ble_eq_true rfl) (fun q23 => ?_)
  refine zA_eq (ws2 := [(h0, .inr (5, [.ref q1, .int 0, .int 0])), (q1, .inl (zz_c E 4, 10, .inr (.inr (.inr (.inr (va_up (va_up (va_up (va_up (va_up (va_up (va_up (fun _ => none) 0 (some q2)) 1 (some q5)) 2 (some q8)) 3 (some q11)) 4 (some q14)) 5 (some q17)) 6 (some q20))))))), (q2, .inr (9, [.ref q3, .ref q4, .int 0])), (q3, .inl (zz_c E 0, 8, .inl (fun _ => 0))), (q4, .inl (zz_c E 0, 10, .inl (fun _ => 0))), (q5, .inr (9, [.ref q6, .ref q7, .int 0])), (q6, .inl (zz_c E 0, 8, .inl (fun _ => 0))), (q7, .inl (zz_c E 0, 10, .inl (fun _ => 0))), (q8, .inr (9, [.ref q9, .ref q10, .int 0])), (q9, .inl (zz_c E 0, 8, .inl (fun _ => 0))), (q10, .inl (zz_c E 0, 10, .inl (fun _ => 0))), (q11, .inr (9, [.ref q12, .ref q13, .int 0])), (q12, .inl (zz_c E 0, 8, .inl (fun _ => 0))), (q13, .inl (zz_c E 0, 10, .inl (fun _ => 0))), (q14, .inr (9, [.ref q15, .ref q16, .int 0])), (q15, .inl (zz_c E 0, 8, .inl (fun _ => 0))), (q16, .inl (zz_c E 0, 10, .inl (fun _ => 0))), (q17, .inr (9, [.ref q18, .ref q19, .int 0])), (q18, .inl (zz_c E 0, 8, .inl (fun _ => 0))), (q19, .inl (zz_c E 0, 10, .inl (fun _ => 0))), (q20, .inr (9, [.ref q21, .ref q22, .int 0])), (q21, .inl (zz_c E 0, 8, .inl (fun _ => 0))), (q22, .inl (zz_c E 0, 10, .inl (fun _ => 0))), (q23, .inr (9, [.null, .null, .int 0]))]) rfl (zA_cnt (cs2 := 23) (sl2 := 160) rfl rfl ?_)
  refine zA_dup dX5_init_32 rfl ?_
  refine zA_eq (ws2 := [(h0, .inr (5, [.ref q1, .int 0, .int 0])), (q1, .inl (zz_c E 4, 10, .inr (.inr (.inr (.inr (va_up (va_up (va_up (va_up (va_up (va_up (va_up (fun _ => none) 0 (some q2)) 1 (some q5)) 2 (some q8)) 3 (some q11)) 4 (some q14)) 5 (some q17)) 6 (some q20))))))), (q2, .inr (9, [.ref q3, .ref q4, .int 0])), (q3, .inl (zz_c E 0, 8, .inl (fun _ => 0))), (q4, .inl (zz_c E 0, 10, .inl (fun _ => 0))), (q5, .inr (9, [.ref q6, .ref q7, .int 0])), (q6, .inl (zz_c E 0, 8, .inl (fun _ => 0))), (q7, .inl (zz_c E 0, 10, .inl (fun _ => 0))), (q8, .inr (9, [.ref q9, .ref q10, .int 0])), (q9, .inl (zz_c E 0, 8, .inl (fun _ => 0))), (q10, .inl (zz_c E 0, 10, .inl (fun _ => 0))), (q11, .inr (9, [.ref q12, .ref q13, .int 0])), (q12, .inl (zz_c E 0, 8, .inl (fun _ => 0))), (q13, .inl (zz_c E 0, 10, .inl (fun _ => 0))), (q14, .inr (9, [.ref q15, .ref q16, .int 0])), (q15, .inl (zz_c E 0, 8, .inl (fun _ => 0))), (q16, .inl (zz_c E 0, 10, .inl (fun _ => 0))), (q17, .inr (9, [.ref q18, .ref q19, .int 0])), (q18, .inl (zz_c E 0, 8, .inl (fun _ => 0))), (q19, .inl (zz_c E 0, 10, .inl (fun _ => 0))), (q20, .inr (9, [.ref q21, .ref q22, .int 0])), (q21, .inl (zz_c E 0, 8, .inl (fun _ => 0))), (q22, .inl (zz_c E 0, 10, .inl (fun _ => 0)))] ++ [(q23, .inr (9, [.null, .null, .int 0]))]) rfl ?_
  refine zA_callN (rest := [.ref q23, .int (7 : Int32), .ref q1]) (c_X9_init q23) dX5_init_33 lin_X5_17 (Nat.le_of_ble_eq_true rfl) rfl rfl (Nat.le_of_ble_eq_true rfl) (Nat.le_of_ble_eq_true rfl) (Nat.le_of_ble_eq_true rfl) (fun ws1 hB1 => ?_)
  obtain ⟨q24, q25, rfl⟩ := hB1
  refine zA_eq (ws2 := [(h0, .inr (5, [.ref q1, .int 0, .int 0])), (q1, .inl (zz_c E 4, 10, .inr (.inr (.inr (.inr (va_up (va_up (va_up (va_up (va_up (va_up (va_up (fun _ => none) 0 (some q2)) 1 (some q5)) 2 (some q8)) 3 (some q11)) 4 (some q14)) 5 (some q17)) 6 (some q20))))))), (q2, .inr (9, [.ref q3, .ref q4, .int 0])), (q3, .inl (zz_c E 0, 8, .inl (fun _ => 0))), (q4, .inl (zz_c E 0, 10, .inl (fun _ => 0))), (q5, .inr (9, [.ref q6, .ref q7, .int 0])), (q6, .inl (zz_c E 0, 8, .inl (fun _ => 0))), (q7, .inl (zz_c E 0, 10, .inl (fun _ => 0))), (q8, .inr (9, [.ref q9, .ref q10, .int 0])), (q9, .inl (zz_c E 0, 8, .inl (fun _ => 0))), (q10, .inl (zz_c E 0, 10, .inl (fun _ => 0))), (q11, .inr (9, [.ref q12, .ref q13, .int 0])), (q12, .inl (zz_c E 0, 8, .inl (fun _ => 0))), (q13, .inl (zz_c E 0, 10, .inl (fun _ => 0))), (q14, .inr (9, [.ref q15, .ref q16, .int 0])), (q15, .inl (zz_c E 0, 8, .inl (fun _ => 0))), (q16, .inl (zz_c E 0, 10, .inl (fun _ => 0))), (q17, .inr (9, [.ref q18, .ref q19, .int 0])), (q18, .inl (zz_c E 0, 8, .inl (fun _ => 0))), (q19, .inl (zz_c E 0, 10, .inl (fun _ => 0))), (q20, .inr (9, [.ref q21, .ref q22, .int 0])), (q21, .inl (zz_c E 0, 8, .inl (fun _ => 0))), (q22, .inl (zz_c E 0, 10, .inl (fun _ => 0))), (q23, .inr (9, [.ref q24, .ref q25, .int 0])), (q24, .inl (zz_c E 0, 8, .inl (fun _ => 0))), (q25, .inl (zz_c E 0, 10, .inl (fun _ => 0)))]) rfl (zA_cnt (cs2 := 25) (sl2 := 178) rfl rfl ?_)
  refine zA_aast4 (q0 := 1) (qk := 23) dX5_init_36 rfl rfl rfl (zz_vin (by decide) (by decide)) (ws2 := [(h0, .inr (5, [.ref q1, .int 0, .int 0])), (q1, .inl (zz_c E 4, 10, .inr (.inr (.inr (.inr (va_up (va_up (va_up (va_up (va_up (va_up (va_up (va_up (fun _ => none) 0 (some q2)) 1 (some q5)) 2 (some q8)) 3 (some q11)) 4 (some q14)) 5 (some q17)) 6 (some q20)) 7 (some q23))))))), (q2, .inr (9, [.ref q3, .ref q4, .int 0])), (q3, .inl (zz_c E 0, 8, .inl (fun _ => 0))), (q4, .inl (zz_c E 0, 10, .inl (fun _ => 0))), (q5, .inr (9, [.ref q6, .ref q7, .int 0])), (q6, .inl (zz_c E 0, 8, .inl (fun _ => 0))), (q7, .inl (zz_c E 0, 10, .inl (fun _ => 0))), (q8, .inr (9, [.ref q9, .ref q10, .int 0])), (q9, .inl (zz_c E 0, 8, .inl (fun _ => 0))), (q10, .inl (zz_c E 0, 10, .inl (fun _ => 0))), (q11, .inr (9, [.ref q12, .ref q13, .int 0])), (q12, .inl (zz_c E 0, 8, .inl (fun _ => 0))), (q13, .inl (zz_c E 0, 10, .inl (fun _ => 0))), (q14, .inr (9, [.ref q15, .ref q16, .int 0])), (q15, .inl (zz_c E 0, 8, .inl (fun _ => 0))), (q16, .inl (zz_c E 0, 10, .inl (fun _ => 0))), (q17, .inr (9, [.ref q18, .ref q19, .int 0])), (q18, .inl (zz_c E 0, 8, .inl (fun _ => 0))), (q19, .inl (zz_c E 0, 10, .inl (fun _ => 0))), (q20, .inr (9, [.ref q21, .ref q22, .int 0])), (q21, .inl (zz_c E 0, 8, .inl (fun _ => 0))), (q22, .inl (zz_c E 0, 10, .inl (fun _ => 0))), (q23, .inr (9, [.ref q24, .ref q25, .int 0])), (q24, .inl (zz_c E 0, 8, .inl (fun _ => 0))), (q25, .inl (zz_c E 0, 10, .inl (fun _ => 0)))]) rfl ?_
  refine zA_iinc (v := (8 : Int32)) [(1, .int (8 : Int32)), (0, .ref h0)] dX5_init_37 0 rfl (by decide) (Nat.le_of_ble_eq_true rfl) rfl ?_
  refine zA_goto (tgt := 15) dX5_init_40 (by decide) ?_
  refine zA_iload_n dX5_init_15 rfl 0 rfl ?_
  refine zA_aload_n dX5_init_16 rfl 1 rfl ?_
  refine zA_get (q0 := 0) (fs := [.ref q1, .int 0, .int 0]) fa_X5_11 dX5_init_17 rfl rfl ?_
  refine zA_alen4 (q0 := 1) (v := (10 : Int32)) dX5_init_20 rfl (by decide) ?_
  refine zA_geF (tgt := 43) dX5_init_21 (by decide) (by decide) ?_
  refine zA_aload_n dX5_init_24 rfl 1 rfl ?_
  refine zA_get (q0 := 0) (fs := [.ref q1, .int 0, .int 0]) fa_X5_11 dX5_init_25 rfl rfl ?_
  refine zA_iload_n dX5_init_28 rfl 0 rfl ?_
  refine zA_new nw_X5_9 dX5_init_29 (Nat.le_of_ble_eq_true rfl) (Nat.le_of_ble_eq_true rfl) (fun q26 => ?_)
  refine zA_eq (ws2 := [(h0, .inr (5, [.ref q1, .int 0, .int 0])), (q1, .inl (zz_c E 4, 10, .inr (.inr (.inr (.inr (va_up (va_up (va_up (va_up (va_up (va_up (va_up (va_up (fun _ => none) 0 (some q2)) 1 (some q5)) 2 (some q8)) 3 (some q11)) 4 (some q14)) 5 (some q17)) 6 (some q20)) 7 (some q23))))))), (q2, .inr (9, [.ref q3, .ref q4, .int 0])), (q3, .inl (zz_c E 0, 8, .inl (fun _ => 0))), (q4, .inl (zz_c E 0, 10, .inl (fun _ => 0))), (q5, .inr (9, [.ref q6, .ref q7, .int 0])), (q6, .inl (zz_c E 0, 8, .inl (fun _ => 0))), (q7, .inl (zz_c E 0, 10, .inl (fun _ => 0))), (q8, .inr (9, [.ref q9, .ref q10, .int 0])), (q9, .inl (zz_c E 0, 8, .inl (fun _ => 0))), (q10, .inl (zz_c E 0, 10, .inl (fun _ => 0))), (q11, .inr (9, [.ref q12, .ref q13, .int 0])), (q12, .inl (zz_c E 0, 8, .inl (fun _ => 0))), (q13, .inl (zz_c E 0, 10, .inl (fun _ => 0))), (q14, .inr (9, [.ref q15, .ref q16, .int 0])), (q15, .inl (zz_c E 0, 8, .inl (fun _ => 0))), (q16, .inl (zz_c E 0, 10, .inl (fun _ => 0))), (q17, .inr (9, [.ref q18, .ref q19, .int 0])), (q18, .inl (zz_c E 0, 8, .inl (fun _ => 0))), (q19, .inl (zz_c E 0, 10, .inl (fun _ => 0))), (q20, .inr (9, [.ref q21, .ref q22, .int 0])), (q21, .inl (zz_c E 0, 8, .inl (fun _ => 0))), (q22, .inl (zz_c E 0, 10, .inl (fun _ => 0))), (q23, .inr (9, [.ref q24, .ref q25, .int 0])), (q24, .inl (zz_c E 0, 8, .inl (fun _ => 0))), (q25, .inl (zz_c E 0, 10, .inl (fun _ => 0))), (q26, .inr (9, [.null, .null, .int 0]))]) rfl (zA_cnt (cs2 := 26) (sl2 := 181) rfl rfl ?_)
  refine zA_dup dX5_init_32 rfl ?_
  refine zA_eq (ws2 := [(h0, .inr (5, [.ref q1, .int 0, .int 0])), (q1, .inl (zz_c E 4, 10, .inr (.inr (.inr (.inr (va_up (va_up (va_up (va_up (va_up (va_up (va_up (va_up (fun _ => none) 0 (some q2)) 1 (some q5)) 2 (some q8)) 3 (some q11)) 4 (some q14)) 5 (some q17)) 6 (some q20)) 7 (some q23))))))), (q2, .inr (9, [.ref q3, .ref q4, .int 0])), (q3, .inl (zz_c E 0, 8, .inl (fun _ => 0))), (q4, .inl (zz_c E 0, 10, .inl (fun _ => 0))), (q5, .inr (9, [.ref q6, .ref q7, .int 0])), (q6, .inl (zz_c E 0, 8, .inl (fun _ => 0))), (q7, .inl (zz_c E 0, 10, .inl (fun _ => 0))), (q8, .inr (9, [.ref q9, .ref q10, .int 0])), (q9, .inl (zz_c E 0, 8, .inl (fun _ => 0))), (q10, .inl (zz_c E 0, 10, .inl (fun _ => 0))), (q11, .inr (9, [.ref q12, .ref q13, .int 0])), (q12, .inl (zz_c E 0, 8, .inl (fun _ => 0))), (q13, .inl (zz_c E 0, 10, .inl (fun _ => 0))), (q14, .inr (9, [.ref q15, .ref q16, .int 0])), (q15, .inl (zz_c E 0, 8, .inl (fun _ => 0))), (q16, .inl (zz_c E 0, 10, .inl (fun _ => 0))), (q17, .inr (9, [.ref q18, .ref q19, .int 0])), (q18, .inl (zz_c E 0, 8, .inl (fun _ => 0))), (q19, .inl (zz_c E 0, 10, .inl (fun _ => 0))), (q20, .inr (9, [.ref q21, .ref q22, .int 0])), (q21, .inl (zz_c E 0, 8, .inl (fun _ => 0))), (q22, .inl (zz_c E 0, 10, .inl (fun _ => 0))), (q23, .inr (9, [.ref q24, .ref q25, .int 0])), (q24, .inl (zz_c E 0, 8, .inl (fun _ => 0))), (q25, .inl (zz_c E 0, 10, .inl (fun _ => 0)))] ++ [(q26, .inr (9, [.null, .null, .int 0]))]) rfl ?_
  refine zA_callN (rest := [.ref q26, .int (8 : Int32), .ref q1]) (c_X9_init q26) dX5_init_33 lin_X5_17 (Nat.le_of_ble_eq_true rfl) rfl rfl (Nat.le_of_ble_eq_true rfl) (Nat.le_of_ble_eq_true rfl) (Nat.le_of_ble_eq_true rfl) (fun ws1 hB1 => ?_)
  obtain ⟨q27, q28, rfl⟩ := hB1
  refine zA_eq (ws2 := [(h0, .inr (5, [.ref q1, .int 0, .int 0])), (q1, .inl (zz_c E 4, 10, .inr (.inr (.inr (.inr (va_up (va_up (va_up (va_up (va_up (va_up (va_up (va_up (fun _ => none) 0 (some q2)) 1 (some q5)) 2 (some q8)) 3 (some q11)) 4 (some q14)) 5 (some q17)) 6 (some q20)) 7 (some q23))))))), (q2, .inr (9, [.ref q3, .ref q4, .int 0])), (q3, .inl (zz_c E 0, 8, .inl (fun _ => 0))), (q4, .inl (zz_c E 0, 10, .inl (fun _ => 0))), (q5, .inr (9, [.ref q6, .ref q7, .int 0])), (q6, .inl (zz_c E 0, 8, .inl (fun _ => 0))), (q7, .inl (zz_c E 0, 10, .inl (fun _ => 0))), (q8, .inr (9, [.ref q9, .ref q10, .int 0])), (q9, .inl (zz_c E 0, 8, .inl (fun _ => 0))), (q10, .inl (zz_c E 0, 10, .inl (fun _ => 0))), (q11, .inr (9, [.ref q12, .ref q13, .int 0])), (q12, .inl (zz_c E 0, 8, .inl (fun _ => 0))), (q13, .inl (zz_c E 0, 10, .inl (fun _ => 0))), (q14, .inr (9, [.ref q15, .ref q16, .int 0])), (q15, .inl (zz_c E 0, 8, .inl (fun _ => 0))), (q16, .inl (zz_c E 0, 10, .inl (fun _ => 0))), (q17, .inr (9, [.ref q18, .ref q19, .int 0])), (q18, .inl (zz_c E 0, 8, .inl (fun _ => 0))), (q19, .inl (zz_c E 0, 10, .inl (fun _ => 0))), (q20, .inr (9, [.ref q21, .ref q22, .int 0])), (q21, .inl (zz_c E 0, 8, .inl (fun _ => 0))), (q22, .inl (zz_c E 0, 10, .inl (fun _ => 0))), (q23, .inr (9, [.ref q24, .ref q25, .int 0])), (q24, .inl (zz_c E 0, 8, .inl (fun _ => 0))), (q25, .inl (zz_c E 0, 10, .inl (fun _ => 0))), (q26, .inr (9, [.ref q27, .ref q28, .int 0])), (q27, .inl (zz_c E 0, 8, .inl (fun _ => 0))), (q28, .inl (zz_c E 0, 10, .inl (fun _ => 0)))]) rfl (zA_cnt (cs2 := 28) (sl2 := 199) rfl rfl ?_)
  refine zA_aast4 (q0 := 1) (qk := 26) dX5_init_36 rfl rfl rfl (zz_vin (by decide) (by decide)) (ws2 := [(h0, .inr (5, [.ref q1, .int 0, .int 0])), (q1, .inl (zz_c E 4, 10, .inr (.inr (.inr (.inr (va_up (va_up (va_up (va_up (va_up (va_up (va_up (va_up (va_up (fun _ => none) 0 (some q2)) 1 (some q5)) 2 (some q8)) 3 (some q11)) 4 (some q14)) 5 (some q17)) 6 (some q20)) 7 (some q23)) 8 (some q26))))))), (q2, .inr (9, [.ref q3, .ref q4, .int 0])), (q3, .inl (zz_c E 0, 8, .inl (fun _ => 0))), (q4, .inl (zz_c E 0, 10, .inl (fun _ => 0))), (q5, .inr (9, [.ref q6, .ref q7, .int 0])), (q6, .inl (zz_c E 0, 8, .inl (fun _ => 0))), (q7, .inl (zz_c E 0, 10, .inl (fun _ => 0))), (q8, .inr (9, [.ref q9, .ref q10, .int 0])), (q9, .inl (zz_c E 0, 8, .inl (fun _ => 0))), (q10, .inl (zz_c E 0, 10, .inl (fun _ => 0))), (q11, .inr (9, [.ref q12, .ref q13, .int 0])), (q12, .inl (zz_c E 0, 8, .inl (fun _ => 0))), (q13, .inl (zz_c E 0, 10, .inl (fun _ => 0))), (q14, .inr (9, [.ref q15, .ref q16, .int 0])), (q15, .inl (zz_c E 0, 8, .inl (fun _ => 0))), (q16, .inl (zz_c E 0, 10, .inl (fun _ => 0))), (q17, .inr (9, [.ref q18, .ref q19, .int 0])), (q18, .inl (zz_c E 0, 8, .inl (fun _ => 0))), (q19, .inl (zz_c E 0, 10, .inl (fun _ => 0))), (q20, .inr (9, [.ref q21, .ref q22, .int 0])), (q21, .inl (zz_c E 0, 8, .inl (fun _ => 0))), (q22, .inl (zz_c E 0, 10, .inl (fun _ => 0))), (q23, .inr (9, [.ref q24, .ref q25, .int 0])), (q24, .inl (zz_c E 0, 8, .inl (fun _ => 0))), (q25, .inl (zz_c E 0, 10, .inl (fun _ => 0))), (q26, .inr (9, [.ref q27, .ref q28, .int 0])), (q27, .inl (zz_c E 0, 8, .inl (fun _ => 0))), (q28, .inl (zz_c E 0, 10, .inl (fun _ => 0)))]) rfl ?_
  refine zA_iinc (v := (9 : Int32)) [(1, .int (9 : Int32)), (0, .ref h0)] dX5_init_37 0 rfl (by decide) (Nat.le_of_ble_eq_true rfl) rfl ?_
  refine zA_goto (tgt := 15) dX5_init_40 (by decide) ?_
  refine zA_iload_n dX5_init_15 rfl 0 rfl ?_
  refine zA_aload_n dX5_init_16 rfl 1 rfl ?_
  refine zA_get (q0 := 0) (fs := [.ref q1, .int 0, .int 0]) fa_X5_11 dX5_init_17 rfl rfl ?_
  refine zA_alen4 (q0 := 1) (v := (10 : Int32)) dX5_init_20 rfl (by decide) ?_
  refine zA_geF (tgt := 43) dX5_init_21 (by decide) (by decide) ?_
  refine zA_aload_n dX5_init_24 rfl 1 rfl ?_
  refine zA_get (q0 := 0) (fs := [.ref q1, .int 0, .int 0]) fa_X5_11 dX5_init_25 rfl rfl ?_
  refine zA_iload_n dX5_init_28 rfl 0 rfl ?_
  refine zA_new nw_X5_9 dX5_init_29 (Nat.le_of_ble_eq_true rfl) (Nat.le_of_ble_eq_true rfl) (fun q29 => ?_)
  refine zA_eq (ws2 := [(h0, .inr (5, [.ref q1, .int 0, .int 0])), (q1, .inl (zz_c E 4, 10, .inr (.inr (.inr (.inr (va_up (va_up (va_up (va_up (va_up (va_up (va_up (va_up (va_up (fun _ => none) 0 (some q2)) 1 (some q5)) 2 (some q8)) 3 (some q11)) 4 (some q14)) 5 (some q17)) 6 (some q20)) 7 (some q23)) 8 (some q26))))))), (q2, .inr (9, [.ref q3, .ref q4, .int 0])), (q3, .inl (zz_c E 0, 8, .inl (fun _ => 0))), (q4, .inl (zz_c E 0, 10, .inl (fun _ => 0))), (q5, .inr (9, [.ref q6, .ref q7, .int 0])), (q6, .inl (zz_c E 0, 8, .inl (fun _ => 0))), (q7, .inl (zz_c E 0, 10, .inl (fun _ => 0))), (q8, .inr (9, [.ref q9, .ref q10, .int 0])), (q9, .inl (zz_c E 0, 8, .inl (fun _ => 0))), (q10, .inl (zz_c E 0, 10, .inl (fun _ => 0))), (q11, .inr (9, [.ref q12, .ref q13, .int 0])), (q12, .inl (zz_c E 0, 8, .inl (fun _ => 0))), (q13, .inl (zz_c E 0, 10, .inl (fun _ => 0))), (q14, .inr (9, [.ref q15, .ref q16, .int 0])), (q15, .inl (zz_c E 0, 8, .inl (fun _ => 0))), (q16, .inl (zz_c E 0, 10, .inl (fun _ => 0))), (q17, .inr (9, [.ref q18, .ref q19, .int 0])), (q18, .inl (zz_c E 0, 8, .inl (fun _ => 0))), (q19, .inl (zz_c E 0, 10, .inl (fun _ => 0))), (q20, .inr (9, [.ref q21, .ref q22, .int 0])), (q21, .inl (zz_c E 0, 8, .inl (fun _ => 0))), (q22, .inl (zz_c E 0, 10, .inl (fun _ => 0))), (q23, .inr (9, [.ref q24, .ref q25, .int 0])), (q24, .inl (zz_c E 0, 8, .inl (fun _ => 0))), (q25, .inl (zz_c E 0, 10, .inl (fun _ => 0))), (q26, .inr (9, [.ref q27, .ref q28, .int 0])), (q27, .inl (zz_c E 0, 8, .inl (fun _ => 0))), (q28, .inl (zz_c E 0, 10, .inl (fun _ => 0))), (q29, .inr (9, [.null, .null, .int 0]))]) rfl (zA_cnt (cs2 := 29) (sl2 := 202) rfl rfl ?_)
  refine zA_dup dX5_init_32 rfl ?_
  refine zA_eq (ws2 := [(h0, .inr (5, [.ref q1, .int 0, .int 0])), (q1, .inl (zz_c E 4, 10, .inr (.inr (.inr (.inr (va_up (va_up (va_up (va_up (va_up (va_up (va_up (va_up (va_up (fun _ => none) 0 (some q2)) 1 (some q5)) 2 (some q8)) 3 (some q11)) 4 (some q14)) 5 (some q17)) 6 (some q20)) 7 (some q23)) 8 (some q26))))))), (q2, .inr (9, [.ref q3, .ref q4, .int 0])), (q3, .inl (zz_c E 0, 8, .inl (fun _ => 0))), (q4, .inl (zz_c E 0, 10, .inl (fun _ => 0))), (q5, .inr (9, [.ref q6, .ref q7, .int 0])), (q6, .inl (zz_c E 0, 8, .inl (fun _ => 0))), (q7, .inl (zz_c E 0, 10, .inl (fun _ => 0))), (q8, .inr (9, [.ref q9, .ref q10, .int 0])), (q9, .inl (zz_c E 0, 8, .inl (fun _ => 0))), (q10, .inl (zz_c E 0, 10, .inl (fun _ => 0))), (q11, .inr (9, [.ref q12, .ref q13, .int 0])), (q12, .inl (zz_c E 0, 8, .inl (fun _ => 0))), (q13, .inl (zz_c E 0, 10, .inl (fun _ => 0))), (q14, .inr (9, [.ref q15, .ref q16, .int 0])), (q15, .inl (zz_c E 0, 8, .inl (fun _ => 0))), (q16, .inl (zz_c E 0, 10, .inl (fun _ => 0))), (q17, .inr (9, [.ref q18, .ref q19, .int 0])), (q18, .inl (zz_c E 0, 8, .inl (fun _ => 0))), (q19, .inl (zz_c E 0, 10, .inl (fun _ => 0))), (q20, .inr (9, [.ref q21, .ref q22, .int 0])), (q21, .inl (zz_c E 0, 8, .inl (fun _ => 0))), (q22, .inl (zz_c E 0, 10, .inl (fun _ => 0))), (q23, .inr (9, [.ref q24, .ref q25, .int 0])), (q24, .inl (zz_c E 0, 8, .inl (fun _ => 0))), (q25, .inl (zz_c E 0, 10, .inl (fun _ => 0))), (q26, .inr (9, [.ref q27, .ref q28, .int 0])), (q27, .inl (zz_c E 0, 8, .inl (fun _ => 0))), (q28, .inl (zz_c E 0, 10, .inl (fun _ => 0)))] ++ [(q29, .inr (9, [.null, .null, .int 0]))]) rfl ?_
  refine zA_callN (rest := [.ref q29, .int (9 : Int32), .ref q1]) (c_X9_init q29) dX5_init_33 lin_X5_17 (Nat.le_of_ble_eq_true rfl) rfl rfl (Nat.le_of_ble_eq_true rfl) (Nat.le_of_ble_eq_true rfl) (Nat.le_of_ble_eq_true rfl) (fun ws1 hB1 => ?_)
  obtain ⟨q30, q31, rfl⟩ := hB1
  refine zA_eq (ws2 := [(h0, .inr (5, [.ref q1, .int 0, .int 0])), (q1, .inl (zz_c E 4, 10, .inr (.inr (.inr (.inr (va_up (va_up (va_up (va_up (va_up (va_up (va_up (va_up (va_up (fun _ => none) 0 (some q2)) 1 (some q5)) 2 (some q8)) 3 (some q11)) 4 (some q14)) 5 (some q17)) 6 (some q20)) 7 (some q23)) 8 (some q26))))))), (q2, .inr (9, [.ref q3, .ref q4, .int 0])), (q3, .inl (zz_c E 0, 8, .inl (fun _ => 0))), (q4, .inl (zz_c E 0, 10, .inl (fun _ => 0))), (q5, .inr (9, [.ref q6, .ref q7, .int 0])), (q6, .inl (zz_c E 0, 8, .inl (fun _ => 0))), (q7, .inl (zz_c E 0, 10, .inl (fun _ => 0))), (q8, .inr (9, [.ref q9, .ref q10, .int 0])), (q9, .inl (zz_c E 0, 8, .inl (fun _ => 0))), (q10, .inl (zz_c E 0, 10, .inl (fun _ => 0))), (q11, .inr (9, [.ref q12, .ref q13, .int 0])), (q12, .inl (zz_c E 0, 8, .inl (fun _ => 0))), (q13, .inl (zz_c E 0, 10, .inl (fun _ => 0))), (q14, .inr (9, [.ref q15, .ref q16, .int 0])), (q15, .inl (zz_c E 0, 8, .inl (fun _ => 0))), (q16, .inl (zz_c E 0, 10, .inl (fun _ => 0))), (q17, .inr (9, [.ref q18, .ref q19, .int 0])), (q18, .inl (zz_c E 0, 8, .inl (fun _ => 0))), (q19, .inl (zz_c E 0, 10, .inl (fun _ => 0))), (q20, .inr (9, [.ref q21, .ref q22, .int 0])), (q21, .inl (zz_c E 0, 8, .inl (fun _ => 0))), (q22, .inl (zz_c E 0, 10, .inl (fun _ => 0))), (q23, .inr (9, [.ref q24, .ref q25, .int 0])), (q24, .inl (zz_c E 0, 8, .inl (fun _ => 0))), (q25, .inl (zz_c E 0, 10, .inl (fun _ => 0))), (q26, .inr (9, [.ref q27, .ref q28, .int 0])), (q27, .inl (zz_c E 0, 8, .inl (fun _ => 0))), (q28, .inl (zz_c E 0, 10, .inl (fun _ => 0))), (q29, .inr (9, [.ref q30, .ref q31, .int 0])), (q30, .inl (zz_c E 0, 8, .inl (fun _ => 0))), (q31, .inl (zz_c E 0, 10, .inl (fun _ => 0)))]) rfl (zA_cnt (cs2 := 31) (sl2 := 220) rfl rfl ?_)
  refine zA_aast4 (q0 := 1) (qk := 29) dX5_init_36 rfl rfl rfl (zz_vin (by decide) (by decide)) (ws2 := [(h0, .inr (5, [.ref q1, .int 0, .int 0])), (q1, .inl (zz_c E 4, 10, .inr (.inr (.inr (.inr (va_up (va_up (va_up (va_up (va_up (va_up (va_up (va_up (va_up (va_up (fun _ => none) 0 (some q2)) 1 (some q5)) 2 (some q8)) 3 (some q11)) 4 (some q14)) 5 (some q17)) 6 (some q20)) 7 (some q23)) 8 (some q26)) 9 (some q29))))))), (q2, .inr (9, [.ref q3, .ref q4, .int 0])), (q3, .inl (zz_c E 0, 8, .inl (fun _ => 0))), (q4, .inl (zz_c E 0, 10, .inl (fun _ => 0))), (q5, .inr (9, [.ref q6, .ref q7, .int 0])), (q6, .inl (zz_c E 0, 8, .inl (fun _ => 0))), (q7, .inl (zz_c E 0, 10, .inl (fun _ => 0))), (q8, .inr (9, [.ref q9, .ref q10, .int 0])), (q9, .inl (zz_c E 0, 8, .inl (fun _ => 0))), (q10, .inl (zz_c E 0, 10, .inl (fun _ => 0))), (q11, .inr (9, [.ref q12, .ref q13, .int 0])), (q12, .inl (zz_c E 0, 8, .inl (fun _ => 0))), (q13, .inl (zz_c E 0, 10, .inl (fun _ => 0))), (q14, .inr (9, [.ref q15, .ref q16, .int 0])), (q15, .inl (zz_c E 0, 8, .inl (fun _ => 0))), (q16, .inl (zz_c E 0, 10, .inl (fun _ => 0))), (q17, .inr (9, [.ref q18, .ref q19, .int 0])), (q18, .inl (zz_c E 0, 8, .inl (fun _ => 0))), (q19, .inl (zz_c E 0, 10, .inl (fun _ => 0))), (q20, .inr (9, [.ref q21, .ref q22, .int 0])), (q21, .inl (zz_c E 0, 8, .inl (fun _ => 0))), (q22, .inl (zz_c E 0, 10, .inl (fun _ => 0))), (q23, .inr (9, [.ref q24, .ref q25, .int 0])), (q24, .inl (zz_c E 0, 8, .inl (fun _ => 0))), (q25, .inl (zz_c E 0, 10, .inl (fun _ => 0))), (q26, .inr (9, [.ref q27, .ref q28, .int 0])), (q27, .inl (zz_c E 0, 8, .inl (fun _ => 0))), (q28, .inl (zz_c E 0, 10, .inl (fun _ => 0))), (q29, .inr (9, [.ref q30, .ref q31, .int 0])), (q30, .inl (zz_c E 0, 8, .inl (fun _ => 0))), (q31, .inl (zz_c E 0, 10, .inl (fun _ => 0)))]) rfl ?_
  refine zA_iinc (v := (10 : Int32)) [(1, .int (10 : Int32)), (0, .ref h0)] dX5_init_37 0 rfl (by decide) (Nat.le_of_ble_eq_true rfl) rfl ?_
  refine zA_goto (tgt := 15) dX5_init_40 (by decide) ?_
  refine zA_iload_n dX5_init_15 rfl 0 rfl ?_
  refine zA_aload_n dX5_init_16 rfl 1 rfl ?_
  refine zA_get (q0 := 0) (fs := [.ref q1, .int 0, .int 0]) fa_X5_11 dX5_init_17 rfl rfl ?_
  refine zA_alen4 (q0 := 1) (v := (10 : Int32)) dX5_init_20 rfl (by decide) ?_
  refine zA_geT (tgt := 43) dX5_init_21 (by decide) (by decide) ?_
  exact zA_ret (ws' := []) dX5_init_43 rfl rfl rfl ⟨q1, q2, q3, q4, q5, q6, q7, q8, q9, q10, q11, q12, q13, q14, q15, q16, q17, q18, q19, q20, q21, q22, q23, q24, q25, q26, q27, q28, q29, q30, q31, rfl⟩
theorem dX8_init_0 : decode cX8_init 0 = .ok (.aload_n 0, 1) := by decide +kernel
theorem dX8_init_1 : decode cX8_init 1 = .ok (.invokespecial 3, 3) := by decide +kernel
theorem dX8_init_4 : decode cX8_init 4 = .ok (.aload_n 0, 1) := by decide +kernel
theorem dX8_init_5 : decode cX8_init 5 = .ok (.bipush 8, 2) := by decide +kernel
theorem dX8_init_7 : decode cX8_init 7 = .ok (.newarray .int, 2) := by decide +kernel
theorem dX8_init_9 : decode cX8_init 9 = .ok (.putfield 9, 3) := by decide +kernel
theorem dX8_init_12 : decode cX8_init 12 = .ok (.aload_n 0, 1) := by decide +kernel
theorem dX8_init_13 : decode cX8_init 13 = .ok (.bipush 8, 2) := by decide +kernel
theorem dX8_init_15 : decode cX8_init 15 = .ok (.newarray .int, 2) := by decide +kernel
theorem dX8_init_17 : decode cX8_init 17 = .ok (.putfield 15, 3) := by decide +kernel
theorem dX8_init_20 : decode cX8_init 20 = .ok (.aload_n 0, 1) := by decide +kernel
theorem dX8_init_21 : decode cX8_init 21 = .ok (.bipush 8, 2) := by decide +kernel
theorem dX8_init_23 : decode cX8_init 23 = .ok (.newarray .int, 2) := by decide +kernel
theorem dX8_init_25 : decode cX8_init 25 = .ok (.putfield 18, 3) := by decide +kernel
theorem dX8_init_28 : decode cX8_init 28 = .ok (.aload_n 0, 1) := by decide +kernel
theorem dX8_init_29 : decode cX8_init 29 = .ok (.sipush 272, 3) := by decide +kernel
theorem dX8_init_32 : decode cX8_init 32 = .ok (.newarray .int, 2) := by decide +kernel
theorem dX8_init_34 : decode cX8_init 34 = .ok (.putfield 21, 3) := by decide +kernel
theorem dX8_init_37 : decode cX8_init 37 = .ok (.aload_n 0, 1) := by decide +kernel
theorem dX8_init_38 : decode cX8_init 38 = .ok (.bipush 8, 2) := by decide +kernel
theorem dX8_init_40 : decode cX8_init 40 = .ok (.newarray .int, 2) := by decide +kernel
theorem dX8_init_42 : decode cX8_init 42 = .ok (.putfield 24, 3) := by decide +kernel
theorem dX8_init_45 : decode cX8_init 45 = .ok (.aload_n 0, 1) := by decide +kernel
theorem dX8_init_46 : decode cX8_init 46 = .ok (.bipush 8, 2) := by decide +kernel
theorem dX8_init_48 : decode cX8_init 48 = .ok (.newarray .int, 2) := by decide +kernel
theorem dX8_init_50 : decode cX8_init 50 = .ok (.putfield 27, 3) := by decide +kernel
theorem dX8_init_53 : decode cX8_init 53 = .ok (.aload_n 0, 1) := by decide +kernel
theorem dX8_init_54 : decode cX8_init 54 = .ok (.bipush 9, 2) := by decide +kernel
theorem dX8_init_56 : decode cX8_init 56 = .ok (.newarray .int, 2) := by decide +kernel
theorem dX8_init_58 : decode cX8_init 58 = .ok (.putfield 30, 3) := by decide +kernel
theorem dX8_init_61 : decode cX8_init 61 = .ok (.aload_n 0, 1) := by decide +kernel
theorem dX8_init_62 : decode cX8_init 62 = .ok (.bipush 9, 2) := by decide +kernel
theorem dX8_init_64 : decode cX8_init 64 = .ok (.newarray .int, 2) := by decide +kernel
theorem dX8_init_66 : decode cX8_init 66 = .ok (.putfield 33, 3) := by decide +kernel
theorem dX8_init_69 : decode cX8_init 69 = .ok (.aload_n 0, 1) := by decide +kernel
theorem dX8_init_70 : decode cX8_init 70 = .ok (.aload_n 1, 1) := by decide +kernel
theorem dX8_init_71 : decode cX8_init 71 = .ok (.putfield 36, 3) := by decide +kernel
theorem dX8_init_74 : decode cX8_init 74 = .ok (.aload_n 0, 1) := by decide +kernel
theorem dX8_init_75 : decode cX8_init 75 = .ok (.new 40, 3) := by decide +kernel
theorem dX8_init_78 : decode cX8_init 78 = .ok (.dup, 1) := by decide +kernel
theorem dX8_init_79 : decode cX8_init 79 = .ok (.aload_n 1, 1) := by decide +kernel
theorem dX8_init_80 : decode cX8_init 80 = .ok (.invokespecial 42, 3) := by decide +kernel
theorem dX8_init_83 : decode cX8_init 83 = .ok (.putfield 45, 3) := by decide +kernel
theorem dX8_init_86 : decode cX8_init 86 = .ok (.return_, 1) := by decide +kernel
set_option maxRecDepth 20000 in
theorem c_X8_init {l : Launch} {E : zz_G} (h0 p1 : Nat) : zA_Con l E mX8_init 2 10 2380 [.ref h0, .ref p1] [(h0, .inr (8, [.null, .null, .null, .null, .null, .null, .null, .null, .int 0, .null, .null]))] (fun ws => ∃ q1 q2 q3 q4 q5 q6 q7 q8 q9 q10 : Nat, ws = [(h0, .inr (8, [.ref p1,.ref q9,.ref q1,.ref q2,.ref q3,.ref q4,.ref q5,.ref q6,.int 0,.ref q7,.ref q8])), (q1, .inl (zz_c E 0, 8, .inl (fun _ => 0))), (q2, .inl (zz_c E 0, 8, .inl (fun _ => 0))), (q3, .inl (zz_c E 0, 8, .inl (fun _ => 0))), (q4, .inl (zz_c E 0, 272, .inl (fun _ => 0))), (q5, .inl (zz_c E 0, 8, .inl (fun _ => 0))), (q6, .inl (zz_c E 0, 8, .inl (fun _ => 0))), (q7, .inl (zz_c E 0, 9, .inl (fun _ => 0))), (q8, .inl (zz_c E 0, 9, .inl (fun _ => 0))), (q9, .inr (0, [.ref p1, .ref q10])), (q10, .inl (zz_c E 2, 2048, .inl (fun _ => 0)))]) none := by
  refine zA_con (lv := [(0, .ref h0), (1, .ref p1)]) (by decide +kernel) (Nat.le_of_ble_eq_true rfl) rfl ?_
  refine zA_aload_n dX8_init_0 rfl 0 rfl ?_
  refine zA_objInit dX8_init_1 lo_X8_3 (Nat.le_of_ble_eq_true rfl) (Nat.le_of_ble_eq_true rfl) ?_
  refine zA_aload_n dX8_init_4 rfl 0 rfl ?_
  refine zA_bipush (v := (8 : Int32)) dX8_init_5 (by decide) ?_
  refine zA_newI (N' := 8) dX8_init_7 (by decide) (by decide) (Nat.le_of_ble_eq_true rfl) (Nat.le_of_ble_eq_true rfl) (Nat.le_of_ble_eq_true rfl) (fun q1 => ?_)
  refine zA_eq (ws2 := [(h0, .inr (8, [.null, .null, .null, .null, .null, .null, .null, .null, .int 0, .null, .null])), (q1, .inl (zz_c E 0, 8, .inl (fun _ => 0)))]) rfl (zA_cnt (cs2 := 1) (sl2 := 8) rfl rfl ?_)
  refine zA_put (q0 := 0) (fs := [.null, .null, .null, .null, .null, .null, .null, .null, .int 0, .null, .null]) fa_X8_9 dX8_init_9 (by decide) (fun C T n h => by cases h; decide) rfl ⟨rfl, rfl⟩ (Nat.le_of_ble_eq_true rfl) (ws2 := [(h0, .inr (8, [.null, .null, .ref q1, .null, .null, .null, .null, .null, .int 0, .null, .null])), (q1, .inl (zz_c E 0, 8, .inl (fun _ => 0)))]) rfl ?_
  refine zA_aload_n dX8_init_12 rfl 0 rfl ?_
  refine zA_bipush (v := (8 : Int32)) dX8_init_13 (by decide) ?_
  refine zA_newI (N' := 8) dX8_init_15 (by decide) (by decide) (Nat.le_of_ble_eq_true rfl) (Nat.le_of_ble_eq_true rfl) (Nat.le_of_ble_eq_true rfl) (fun q2 => ?_)
  refine zA_eq (ws2 := [(h0, .inr (8, [.null, .null, .ref q1, .null, .null, .null, .null, .null, .int 0, .null, .null])), (q1, .inl (zz_c E 0, 8, .inl (fun _ => 0))), (q2, .inl (zz_c E 0, 8, .inl (fun _ => 0)))]) rfl (zA_cnt (cs2 := 2) (sl2 := 16) rfl rfl ?_)
  refine zA_put (q0 := 0) (fs := [.null, .null, .ref q1, .null, .null, .null, .null, .null, .int 0, .null, .null]) fa_X8_15 dX8_init_17 (by decide) (fun C T n h => by cases h; decide) rfl ⟨rfl, rfl⟩ (Nat.le_of_ble_eq_true rfl) (ws2 := [(h0, .inr (8, [.null, .null, .ref q1, .ref q2, .null, .null, .null, .null, .int 0, .null, .null])), (q1, .inl (zz_c E 0, 8, .inl (fun _ => 0))), (q2, .inl (zz_c E 0, 8, .inl (fun _ => 0)))]) rfl ?_
  refine zA_aload_n dX8_init_20 rfl 0 rfl ?_
  refine zA_bipush (v := (8 : Int32)) dX8_init_21 (by decide) ?_
  refine zA_newI (N' := 8) dX8_init_23 (by decide) (by decide) (Nat.le_of_ble_eq_true rfl) (Nat.le_of_ble_eq_true rfl) (Nat.le_of_ble_eq_true rfl) (fun q3 => ?_)
  refine zA_eq (ws2 := [(h0, .inr (8, [.null, .null, .ref q1, .ref q2, .null, .null, .null, .null, .int 0, .null, .null])), (q1, .inl (zz_c E 0, 8, .inl (fun _ => 0))), (q2, .inl (zz_c E 0, 8, .inl (fun _ => 0))), (q3, .inl (zz_c E 0, 8, .inl (fun _ => 0)))]) rfl (zA_cnt (cs2 := 3) (sl2 := 24) rfl rfl ?_)
  refine zA_put (q0 := 0) (fs := [.null, .null, .ref q1, .ref q2, .null, .null, .null, .null, .int 0, .null, .null]) fa_X8_18 dX8_init_25 (by decide) (fun C T n h => by cases h; decide) rfl ⟨rfl, rfl⟩ (Nat.le_of_ble_eq_true rfl) (ws2 := [(h0, .inr (8, [.null, .null, .ref q1, .ref q2, .ref q3, .null, .null, .null, .int 0, .null, .null])), (q1, .inl (zz_c E 0, 8, .inl (fun _ => 0))), (q2, .inl (zz_c E 0, 8, .inl (fun _ => 0))), (q3, .inl (zz_c E 0, 8, .inl (fun _ => 0)))]) rfl ?_
  refine zA_aload_n dX8_init_28 rfl 0 rfl ?_
  refine zA_sipush (v := (272 : Int32)) dX8_init_29 (by decide) ?_
  refine zA_newI (N' := 272) dX8_init_32 (by decide) (by decide) (Nat.le_of_ble_eq_true rfl) (Nat.le_of_ble_eq_true rfl) (Nat.le_of_ble_eq_true rfl) (fun q4 => ?_)
  refine zA_eq (ws2 := [(h0, .inr (8, [.null, .null, .ref q1, .ref q2, .ref q3, .null, .null, .null, .int 0, .null, .null])), (q1, .inl (zz_c E 0, 8, .inl (fun _ => 0))), (q2, .inl (zz_c E 0, 8, .inl (fun _ => 0))), (q3, .inl (zz_c E 0, 8, .inl (fun _ => 0))), (q4, .inl (zz_c E 0, 272, .inl (fun _ => 0)))]) rfl (zA_cnt (cs2 := 4) (sl2 := 296) rfl rfl ?_)
  refine zA_put (q0 := 0) (fs := [.null, .null, .ref q1, .ref q2, .ref q3, .null, .null, .null, .int 0, .null, .null]) fa_X8_21 dX8_init_34 (by decide) (fun C T n h => by cases h; decide) rfl ⟨rfl, rfl⟩ (Nat.le_of_ble_eq_true rfl) (ws2 := [(h0, .inr (8, [.null, .null, .ref q1, .ref q2, .ref q3, .ref q4, .null, .null, .int 0, .null, .null])), (q1, .inl (zz_c E 0, 8, .inl (fun _ => 0))), (q2, .inl (zz_c E 0, 8, .inl (fun _ => 0))), (q3, .inl (zz_c E 0, 8, .inl (fun _ => 0))), (q4, .inl (zz_c E 0, 272, .inl (fun _ => 0)))]) rfl ?_
  refine zA_aload_n dX8_init_37 rfl 0 rfl ?_
  refine zA_bipush (v := (8 : Int32)) dX8_init_38 (by decide) ?_
  refine zA_newI (N' := 8) dX8_init_40 (by decide) (by decide) (Nat.le_of_ble_eq_true rfl) (Nat.le_of_ble_eq_true rfl) (Nat.le_of_ble_eq_true rfl) (fun q5 => ?_)
  refine zA_eq (ws2 := [(h0, .inr (8, [.null, .null, .ref q1, .ref q2, .ref q3, .ref q4, .null, .null, .int 0, .null, .null])), (q1, .inl (zz_c E 0, 8, .inl (fun _ => 0))), (q2, .inl (zz_c E 0, 8, .inl (fun _ => 0))), (q3, .inl (zz_c E 0, 8, .inl (fun _ => 0))), (q4, .inl (zz_c E 0, 272, .inl (fun _ => 0))), (q5, .inl (zz_c E 0, 8, .inl (fun _ => 0)))]) rfl (zA_cnt (cs2 := 5) (sl2 := 304) rfl rfl ?_)
  refine zA_put (q0 := 0) (fs := [.null, .null, .ref q1, .ref q2, .ref q3, .ref q4, .null, .null, .int 0, .null, .null]) fa_X8_24 dX8_init_42 (by decide) (fun C T n h => by cases h; decide) rfl ⟨rfl, rfl⟩ (Nat.le_of_ble_eq_true rfl) (ws2 := [(h0, .inr (8, [.null, .null, .ref q1, .ref q2, .ref q3, .ref q4, .ref q5, .null, .int 0, .null, .null])), (q1, .inl (zz_c E 0, 8, .inl (fun _ => 0))), (q2, .inl (zz_c E 0, 8, .inl (fun _ => 0))), (q3, .inl (zz_c E 0, 8, .inl (fun _ => 0))), (q4, .inl (zz_c E 0, 272, .inl (fun _ => 0))), (q5, .inl (zz_c E 0, 8, .inl (fun _ => 0)))]) rfl ?_
  refine zA_aload_n dX8_init_45 rfl 0 rfl ?_
  refine zA_bipush (v := (8 : Int32)) dX8_init_46 (by decide) ?_
  refine zA_newI (N' := 8) dX8_init_48 (by decide) (by decide) (Nat.le_of_ble_eq_true rfl) (Nat.le_of_ble_eq_true rfl) (Nat.le_of_ble_eq_true rfl) (fun q6 => ?_)
  refine zA_eq (ws2 := [(h0, .inr (8, [.null, .null, .ref q1, .ref q2, .ref q3, .ref q4, .ref q5, .null, .int 0, .null, .null])), (q1, .inl (zz_c E 0, 8, .inl (fun _ => 0))), (q2, .inl (zz_c E 0, 8, .inl (fun _ => 0))), (q3, .inl (zz_c E 0, 8, .inl (fun _ => 0))), (q4, .inl (zz_c E 0, 272, .inl (fun _ => 0))), (q5, .inl (zz_c E 0, 8, .inl (fun _ => 0))), (q6, .inl (zz_c E 0, 8, .inl (fun _ => 0)))]) rfl (zA_cnt (cs2 := 6) (sl2 := 312) rfl rfl ?_)
  refine zA_put (q0 := 0) (fs := [.null, .null, .ref q1, .ref q2, .ref q3, .ref q4, .ref q5, .null, .int 0, .null, .null]) fa_X8_27 dX8_init_50 (by decide) (fun C T n h => by cases h; decide) rfl ⟨rfl, rfl⟩ (Nat.le_of_ble_eq_true rfl) (ws2 := [(h0, .inr (8, [.null, .null, .ref q1, .ref q2, .ref q3, .ref q4, .ref q5, .ref q6, .int 0, .null, .null])), (q1, .inl (zz_c E 0, 8, .inl (fun _ => 0))), (q2, .inl (zz_c E 0, 8, .inl (fun _ => 0))), (q3, .inl (zz_c E 0, 8, .inl (fun _ => 0))), (q4, .inl (zz_c E 0, 272, .inl (fun _ => 0))), (q5, .inl (zz_c E 0, 8, .inl (fun _ => 0))), (q6, .inl (zz_c E 0, 8, .inl (fun _ => 0)))]) rfl ?_
  refine zA_aload_n dX8_init_53 rfl 0 rfl ?_
  refine zA_bipush (v := (9 : Int32)) dX8_init_54 (by decide) ?_
  refine zA_newI (N' := 9) dX8_init_56 (by decide) (by decide) (Nat.le_of_ble_eq_true rfl) (Nat.le_of_ble_eq_true rfl) (Nat.le_of_ble_eq_true rfl) (fun q7 => ?_)
  refine zA_eq (ws2 := [(h0, .inr (8, [.null, .null, .ref q1, .ref q2, .ref q3, .ref q4, .ref q5, .ref q6, .int 0, .null, .null])), (q1, .inl (zz_c E 0, 8, .inl (fun _ => 0))), (q2, .inl (zz_c E 0, 8, .inl (fun _ => 0))), (q3, .inl (zz_c E 0, 8, .inl (fun _ => 0))), (q4, .inl (zz_c E 0, 272, .inl (fun _ => 0))), (q5, .inl (zz_c E 0, 8, .inl (fun _ => 0))), (q6, .inl (zz_c E 0, 8, .inl (fun _ => 0))), (q7, .inl (zz_c E 0, 9, .inl (fun _ => 0)))]) rfl (zA_cnt (cs2 := 7) (sl2 := 321) rfl rfl ?_)
  refine zA_put (q0 := 0) (fs := [.null, .null, .ref q1, .ref q2, .ref q3, .ref q4, .ref q5, .ref q6, .int 0, .null, .null]) fa_X8_30 dX8_init_58 (by decide) (fun C T n h => by cases h; decide) rfl ⟨rfl, rfl⟩ (Nat.le_of_ble_eq_true rfl) (ws2 := [(h0, .inr (8, [.null, .null, .ref q1, .ref q2, .ref q3, .ref q4, .ref q5, .ref q6, .int 0, .ref q7, .null])), (q1, .inl (zz_c E 0, 8, .inl (fun _ => 0))), (q2, .inl (zz_c E 0, 8, .inl (fun _ => 0))), (q3, .inl (zz_c E 0, 8, .inl (fun _ => 0))), (q4, .inl (zz_c E 0, 272, .inl (fun _ => 0))), (q5, .inl (zz_c E 0, 8, .inl (fun _ => 0))), (q6, .inl (zz_c E 0, 8, .inl (fun _ => 0))), (q7, .inl (zz_c E 0, 9, .inl (fun _ => 0)))]) rfl ?_
  refine zA_aload_n dX8_init_61 rfl 0 rfl ?_
  refine zA_bipush (v := (9 : Int32)) dX8_init_62 (by decide) ?_
  refine zA_newI (N' := 9) dX8_init_64 (by decide) (by decide) (Nat.le_of_ble_eq_true rfl) (Nat.le_of_ble_eq_true rfl) (Nat.le_of_ble_eq_true rfl) (fun q8 => ?_)
  refine zA_eq (ws2 := [(h0, .inr (8, [.null, .null, .ref q1, .ref q2, .ref q3, .ref q4, .ref q5, .ref q6, .int 0, .ref q7, .null])), (q1, .inl (zz_c E 0, 8, .inl (fun _ => 0))), (q2, .inl (zz_c E 0, 8, .inl (fun _ => 0))), (q3, .inl (zz_c E 0, 8, .inl (fun _ => 0))), (q4, .inl (zz_c E 0, 272, .inl (fun _ => 0))), (q5, .inl (zz_c E 0, 8, .inl (fun _ => 0))), (q6, .inl (zz_c E 0, 8, .inl (fun _ => 0))), (q7, .inl (zz_c E 0, 9, .inl (fun _ => 0))), (q8, .inl (zz_c E 0, 9, .inl (fun _ => 0)))]) rfl (zA_cnt (cs2 := 8) (sl2 := 330) rfl rfl ?_)
  refine zA_put (q0 := 0) (fs := [.null, .null, .ref q1, .ref q2, .ref q3, .ref q4, .ref q5, .ref q6, .int 0, .ref q7, .null]) fa_X8_33 dX8_init_66 (by decide) (fun C T n h => by cases h; decide) rfl ⟨rfl, rfl⟩ (Nat.le_of_ble_eq_true rfl) (ws2 := [(h0, .inr (8, [.null, .null, .ref q1, .ref q2, .ref q3, .ref q4, .ref q5, .ref q6, .int 0, .ref q7, .ref q8])), (q1, .inl (zz_c E 0, 8, .inl (fun _ => 0))), (q2, .inl (zz_c E 0, 8, .inl (fun _ => 0))), (q3, .inl (zz_c E 0, 8, .inl (fun _ => 0))), (q4, .inl (zz_c E 0, 272, .inl (fun _ => 0))), (q5, .inl (zz_c E 0, 8, .inl (fun _ => 0))), (q6, .inl (zz_c E 0, 8, .inl (fun _ => 0))), (q7, .inl (zz_c E 0, 9, .inl (fun _ => 0))), (q8, .inl (zz_c E 0, 9, .inl (fun _ => 0)))]) rfl ?_
  refine zA_aload_n dX8_init_69 rfl 0 rfl ?_
  refine zA_aload_n dX8_init_70 rfl 1 rfl ?_
  refine zA_put (q0 := 0) (fs := [.null, .null, .ref q1, .ref q2, .ref q3, .ref q4, .ref q5, .ref q6, .int 0, .ref q7, .ref q8]) fa_X8_36 dX8_init_71 (by decide) (fun C T n h => by cases h; decide) rfl ⟨rfl, rfl⟩ (Nat.le_of_ble_eq_true rfl) (ws2 := [(h0, .inr (8, [.ref p1, .null, .ref q1, .ref q2, .ref q3, .ref q4, .ref q5, .ref q6, .int 0, .ref q7, .ref q8])), (q1, .inl (zz_c E 0, 8, .inl (fun _ => 0))), (q2, .inl (zz_c E 0, 8, .inl (fun _ => 0))), (q3, .inl (zz_c E 0, 8, .inl (fun _ => 0))), (q4, .inl (zz_c E 0, 272, .inl (fun _ => 0))), (q5, .inl (zz_c E 0, 8, .inl (fun _ => 0))), (q6, .inl (zz_c E 0, 8, .inl (fun _ => 0))), (q7, .inl (zz_c E 0, 9, .inl (fun _ => 0))), (q8, .inl (zz_c E 0, 9, .inl (fun _ => 0)))]) rfl ?_
  refine zA_aload_n dX8_init_74 rfl 0 rfl ?_
  refine zA_new nw_X8_40 dX8_init_75 (Nat.le_of_ble_eq_true rfl) (Nat.le_of_ble_eq_true rfl) (fun q9 => ?_)
  refine zA_eq (ws2 := [(h0, .inr (8, [.ref p1, .null, .ref q1, .ref q2, .ref q3, .ref q4, .ref q5, .ref q6, .int 0, .ref q7, .ref q8])), (q1, .inl (zz_c E 0, 8, .inl (fun _ => 0))), (q2, .inl (zz_c E 0, 8, .inl (fun _ => 0))), (q3, .inl (zz_c E 0, 8, .inl (fun _ => 0))), (q4, .inl (zz_c E 0, 272, .inl (fun _ => 0))), (q5, .inl (zz_c E 0, 8, .inl (fun _ => 0))), (q6, .inl (zz_c E 0, 8, .inl (fun _ => 0))), (q7, .inl (zz_c E 0, 9, .inl (fun _ => 0))), (q8, .inl (zz_c E 0, 9, .inl (fun _ => 0))), (q9, .inr (0, [.null, .null]))]) rfl (zA_cnt (cs2 := 9) (sl2 := 332) rfl rfl ?_)
  refine zA_dup dX8_init_78 rfl ?_
  refine zA_aload_n dX8_init_79 rfl 1 rfl ?_
  refine zA_eq (ws2 := [(h0, .inr (8, [.ref p1, .null, .ref q1, .ref q2, .ref q3, .ref q4, .ref q5, .ref q6, .int 0, .ref q7, .ref q8])), (q1, .inl (zz_c E 0, 8, .inl (fun _ => 0))), (q2, .inl (zz_c E 0, 8, .inl (fun _ => 0))), (q3, .inl (zz_c E 0, 8, .inl (fun _ => 0))), (q4, .inl (zz_c E 0, 272, .inl (fun _ => 0))), (q5, .inl (zz_c E 0, 8, .inl (fun _ => 0))), (q6, .inl (zz_c E 0, 8, .inl (fun _ => 0))), (q7, .inl (zz_c E 0, 9, .inl (fun _ => 0))), (q8, .inl (zz_c E 0, 9, .inl (fun _ => 0)))] ++ [(q9, .inr (0, [.null, .null]))]) rfl ?_
  refine zA_call (rest := [.ref q9, .ref h0]) (c_X0_init q9 p1) dX8_init_80 li_X8_42 (Nat.le_of_ble_eq_true rfl) rfl rfl (Nat.le_of_ble_eq_true rfl) (Nat.le_of_ble_eq_true rfl) (Nat.le_of_ble_eq_true rfl) (fun ws1 hB1 => ?_)
  obtain ⟨q10, rfl⟩ := hB1
  refine zA_eq (ws2 := [(h0, .inr (8, [.ref p1, .null, .ref q1, .ref q2, .ref q3, .ref q4, .ref q5, .ref q6, .int 0, .ref q7, .ref q8])), (q1, .inl (zz_c E 0, 8, .inl (fun _ => 0))), (q2, .inl (zz_c E 0, 8, .inl (fun _ => 0))), (q3, .inl (zz_c E 0, 8, .inl (fun _ => 0))), (q4, .inl (zz_c E 0, 272, .inl (fun _ => 0))), (q5, .inl (zz_c E 0, 8, .inl (fun _ => 0))), (q6, .inl (zz_c E 0, 8, .inl (fun _ => 0))), (q7, .inl (zz_c E 0, 9, .inl (fun _ => 0))), (q8, .inl (zz_c E 0, 9, .inl (fun _ => 0))), (q9, .inr (0, [.ref p1, .ref q10])), (q10, .inl (zz_c E 2, 2048, .inl (fun _ => 0)))]) rfl (zA_cnt (cs2 := 10) (sl2 := 2380) rfl rfl ?_)
  refine zA_put (q0 := 0) (fs := [.ref p1, .null, .ref q1, .ref q2, .ref q3, .ref q4, .ref q5, .ref q6, .int 0, .ref q7, .ref q8]) fa_X8_45 dX8_init_83 (by decide) (fun C T n h => by cases h; decide) rfl ⟨rfl, rfl⟩ (Nat.le_of_ble_eq_true rfl) (ws2 := [(h0, .inr (8, [.ref p1, .ref q9, .ref q1, .ref q2, .ref q3, .ref q4, .ref q5, .ref q6, .int 0, .ref q7, .ref q8])), (q1, .inl (zz_c E 0, 8, .inl (fun _ => 0))), (q2, .inl (zz_c E 0, 8, .inl (fun _ => 0))), (q3, .inl (zz_c E 0, 8, .inl (fun _ => 0))), (q4, .inl (zz_c E 0, 272, .inl (fun _ => 0))), (q5, .inl (zz_c E 0, 8, .inl (fun _ => 0))), (q6, .inl (zz_c E 0, 8, .inl (fun _ => 0))), (q7, .inl (zz_c E 0, 9, .inl (fun _ => 0))), (q8, .inl (zz_c E 0, 9, .inl (fun _ => 0))), (q9, .inr (0, [.ref p1, .ref q10])), (q10, .inl (zz_c E 2, 2048, .inl (fun _ => 0)))]) rfl ?_
  exact zA_ret (ws' := []) dX8_init_86 rfl rfl rfl ⟨q1, q2, q3, q4, q5, q6, q7, q8, q9, q10, rfl⟩
