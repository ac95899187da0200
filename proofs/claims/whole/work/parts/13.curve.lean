/-! ===== models and walks: 13.curve ===== -/
/-! X1_copyFrom: PillarDesk$Curve.copyFrom(LPillarDesk$Curve;)V -/
theorem dX1_copyFrom_0 : decode cX1_copyFrom 0 = .ok (.aload_n 1, 1) := by decide +kernel
theorem dX1_copyFrom_1 : decode cX1_copyFrom 1 = .ok (.getfield 9, 3) := by decide +kernel
theorem dX1_copyFrom_4 : decode cX1_copyFrom 4 = .ok (.iconst 0, 1) := by decide +kernel
theorem dX1_copyFrom_5 : decode cX1_copyFrom 5 = .ok (.aload_n 0, 1) := by decide +kernel
theorem dX1_copyFrom_6 : decode cX1_copyFrom 6 = .ok (.getfield 9, 3) := by decide +kernel
theorem dX1_copyFrom_9 : decode cX1_copyFrom 9 = .ok (.iconst 0, 1) := by decide +kernel
theorem dX1_copyFrom_10 : decode cX1_copyFrom 10 = .ok (.aload_n 0, 1) := by decide +kernel
theorem dX1_copyFrom_11 : decode cX1_copyFrom 11 = .ok (.getfield 9, 3) := by decide +kernel
theorem dX1_copyFrom_14 : decode cX1_copyFrom 14 = .ok (.arraylength, 1) := by decide +kernel
theorem dX1_copyFrom_15 : decode cX1_copyFrom 15 = .ok (.invokestatic 33, 3) := by decide +kernel
theorem dX1_copyFrom_18 : decode cX1_copyFrom 18 = .ok (.aload_n 1, 1) := by decide +kernel
theorem dX1_copyFrom_19 : decode cX1_copyFrom 19 = .ok (.getfield 15, 3) := by decide +kernel
theorem dX1_copyFrom_22 : decode cX1_copyFrom 22 = .ok (.iconst 0, 1) := by decide +kernel
theorem dX1_copyFrom_23 : decode cX1_copyFrom 23 = .ok (.aload_n 0, 1) := by decide +kernel
theorem dX1_copyFrom_24 : decode cX1_copyFrom 24 = .ok (.getfield 15, 3) := by decide +kernel
theorem dX1_copyFrom_27 : decode cX1_copyFrom 27 = .ok (.iconst 0, 1) := by decide +kernel
theorem dX1_copyFrom_28 : decode cX1_copyFrom 28 = .ok (.aload_n 0, 1) := by decide +kernel
theorem dX1_copyFrom_29 : decode cX1_copyFrom 29 = .ok (.getfield 15, 3) := by decide +kernel
theorem dX1_copyFrom_32 : decode cX1_copyFrom 32 = .ok (.arraylength, 1) := by decide +kernel
theorem dX1_copyFrom_33 : decode cX1_copyFrom 33 = .ok (.invokestatic 33, 3) := by decide +kernel
theorem dX1_copyFrom_36 : decode cX1_copyFrom 36 = .ok (.return_, 1) := by decide +kernel
def f_X1_copyFrom   (m : zz_Mem) : Option zz_Mem :=
  zz_letM (zz_rowI m 89 (va_cpy (m.1 84) (m.1 89) 0 0 8)) fun m1 =>
  zz_letM (zz_rowI m1 90 (va_cpy (m1.1 85) (m1.1 90) 0 0 9)) fun m2 =>
  some m2
theorem k_X1_copyFrom {l : Launch} {G : zz_G} (hN : 107 ≤ zz_N G) : ∀ (m : zz_Mem), zz_Con zz_sh l G mX1_copyFrom 1 [.ref (zz_a G 88), .ref (zz_a G 83)] zz_vV zz_mV (f_X1_copyFrom m) m := by
  intro m
  refine zz_con (lv := [(0, .ref (zz_a G 88)), (1, .ref (zz_a G 83))]) (by decide +kernel) (Nat.le_of_ble_eq_true rfl) rfl ?_
  unfold f_X1_copyFrom
  refine zs_aload_n dX1_copyFrom_0 rfl 1 rfl ?_
  refine zs_getR fl_X1_9 dX1_copyFrom_1 (sh_83 hN) rfl ?_
  refine zs_iconst (v := (0 : Int32)) dX1_copyFrom_4 ci_0 ?_
  refine zs_aload_n dX1_copyFrom_5 rfl 0 rfl ?_
  refine zs_getR fl_X1_9 dX1_copyFrom_6 (sh_88 hN) rfl ?_
  refine zs_iconst (v := (0 : Int32)) dX1_copyFrom_9 ci_0 ?_
  refine zs_aload_n dX1_copyFrom_10 rfl 0 rfl ?_
  refine zs_getR fl_X1_9 dX1_copyFrom_11 (sh_88 hN) rfl ?_
  refine zs_alen0 (v := (8 : Int32)) dX1_copyFrom_14 (sh_89 hN) al_8 ?_
  refine zs_acopy dX1_copyFrom_15 ac_X1_33 (sh_84 hN) (sh_89 hN) clp_8 (by decide) (Nat.le_of_ble_eq_true rfl) (Nat.le_of_ble_eq_true rfl) (fun m1 => ?_)
  refine zs_aload_n dX1_copyFrom_18 rfl 1 rfl ?_
  refine zs_getR fl_X1_15 dX1_copyFrom_19 (sh_83 hN) rfl ?_
  refine zs_iconst (v := (0 : Int32)) dX1_copyFrom_22 ci_0 ?_
  refine zs_aload_n dX1_copyFrom_23 rfl 0 rfl ?_
  refine zs_getR fl_X1_15 dX1_copyFrom_24 (sh_88 hN) rfl ?_
  refine zs_iconst (v := (0 : Int32)) dX1_copyFrom_27 ci_0 ?_
  refine zs_aload_n dX1_copyFrom_28 rfl 0 rfl ?_
  refine zs_getR fl_X1_15 dX1_copyFrom_29 (sh_88 hN) rfl ?_
  refine zs_alen0 (v := (9 : Int32)) dX1_copyFrom_32 (sh_90 hN) al_9 ?_
  refine zs_acopy dX1_copyFrom_33 ac_X1_33 (sh_85 hN) (sh_90 hN) clp_9 (by decide) (Nat.le_of_ble_eq_true rfl) (Nat.le_of_ble_eq_true rfl) (fun m2 => ?_)
  exact zs_vret dX1_copyFrom_36 rfl rfl rfl
/-! X1_rateByRule: PillarDesk$Curve.rateByRule(III)I -/
theorem dX1_rateByRule_0 : decode cX1_rateByRule 0 = .ok (.aload_n 0, 1) := by decide +kernel
theorem dX1_rateByRule_1 : decode cX1_rateByRule 1 = .ok (.getfield 25, 3) := by decide +kernel
theorem dX1_rateByRule_4 : decode cX1_rateByRule 4 = .ok (.getfield 58, 3) := by decide +kernel
theorem dX1_rateByRule_7 : decode cX1_rateByRule 7 = .ok (.astore 4, 2) := by decide +kernel
theorem dX1_rateByRule_9 : decode cX1_rateByRule 9 = .ok (.aload 4, 2) := by decide +kernel
theorem dX1_rateByRule_11 : decode cX1_rateByRule 11 = .ok (.invokevirtual 62, 3) := by decide +kernel
theorem dX1_rateByRule_14 : decode cX1_rateByRule 14 = .ok (.ifCond .ne 7, 3) := by decide +kernel
theorem dX1_rateByRule_17 : decode cX1_rateByRule 17 = .ok (.iload_n 2, 1) := by decide +kernel
theorem dX1_rateByRule_18 : decode cX1_rateByRule 18 = .ok (.iload_n 3, 1) := by decide +kernel
theorem dX1_rateByRule_19 : decode cX1_rateByRule 19 = .ok (.iadd, 1) := by decide +kernel
theorem dX1_rateByRule_20 : decode cX1_rateByRule 20 = .ok (.ireturn, 1) := by decide +kernel
theorem dX1_rateByRule_21 : decode cX1_rateByRule 21 = .ok (.aload 4, 2) := by decide +kernel
theorem dX1_rateByRule_23 : decode cX1_rateByRule 23 = .ok (.getfield 68, 3) := by decide +kernel
theorem dX1_rateByRule_26 : decode cX1_rateByRule 26 = .ok (.iconst 0, 1) := by decide +kernel
theorem dX1_rateByRule_27 : decode cX1_rateByRule 27 = .ok (.iload_n 2, 1) := by decide +kernel
theorem dX1_rateByRule_28 : decode cX1_rateByRule 28 = .ok (.iastore, 1) := by decide +kernel
theorem dX1_rateByRule_29 : decode cX1_rateByRule 29 = .ok (.aload 4, 2) := by decide +kernel
theorem dX1_rateByRule_31 : decode cX1_rateByRule 31 = .ok (.getfield 68, 3) := by decide +kernel
theorem dX1_rateByRule_34 : decode cX1_rateByRule 34 = .ok (.iconst 1, 1) := by decide +kernel
theorem dX1_rateByRule_35 : decode cX1_rateByRule 35 = .ok (.aload_n 0, 1) := by decide +kernel
theorem dX1_rateByRule_36 : decode cX1_rateByRule 36 = .ok (.getfield 29, 3) := by decide +kernel
theorem dX1_rateByRule_39 : decode cX1_rateByRule 39 = .ok (.iload_n 1, 1) := by decide +kernel
theorem dX1_rateByRule_40 : decode cX1_rateByRule 40 = .ok (.invokevirtual 71, 3) := by decide +kernel
theorem dX1_rateByRule_43 : decode cX1_rateByRule 43 = .ok (.iastore, 1) := by decide +kernel
theorem dX1_rateByRule_44 : decode cX1_rateByRule 44 = .ok (.aload 4, 2) := by decide +kernel
theorem dX1_rateByRule_46 : decode cX1_rateByRule 46 = .ok (.getfield 68, 3) := by decide +kernel
theorem dX1_rateByRule_49 : decode cX1_rateByRule 49 = .ok (.iconst 2, 1) := by decide +kernel
theorem dX1_rateByRule_50 : decode cX1_rateByRule 50 = .ok (.aload_n 0, 1) := by decide +kernel
theorem dX1_rateByRule_51 : decode cX1_rateByRule 51 = .ok (.getfield 25, 3) := by decide +kernel
theorem dX1_rateByRule_54 : decode cX1_rateByRule 54 = .ok (.getfield 76, 3) := by decide +kernel
theorem dX1_rateByRule_57 : decode cX1_rateByRule 57 = .ok (.iload_n 1, 1) := by decide +kernel
theorem dX1_rateByRule_58 : decode cX1_rateByRule 58 = .ok (.iaload, 1) := by decide +kernel
theorem dX1_rateByRule_59 : decode cX1_rateByRule 59 = .ok (.iastore, 1) := by decide +kernel
theorem dX1_rateByRule_60 : decode cX1_rateByRule 60 = .ok (.aload 4, 2) := by decide +kernel
theorem dX1_rateByRule_62 : decode cX1_rateByRule 62 = .ok (.getfield 68, 3) := by decide +kernel
theorem dX1_rateByRule_65 : decode cX1_rateByRule 65 = .ok (.iconst 3, 1) := by decide +kernel
theorem dX1_rateByRule_66 : decode cX1_rateByRule 66 = .ok (.iload_n 3, 1) := by decide +kernel
theorem dX1_rateByRule_67 : decode cX1_rateByRule 67 = .ok (.iastore, 1) := by decide +kernel
theorem dX1_rateByRule_68 : decode cX1_rateByRule 68 = .ok (.aload 4, 2) := by decide +kernel
theorem dX1_rateByRule_70 : decode cX1_rateByRule 70 = .ok (.getfield 68, 3) := by decide +kernel
theorem dX1_rateByRule_73 : decode cX1_rateByRule 73 = .ok (.iconst 4, 1) := by decide +kernel
theorem dX1_rateByRule_74 : decode cX1_rateByRule 74 = .ok (.iload_n 1, 1) := by decide +kernel
theorem dX1_rateByRule_75 : decode cX1_rateByRule 75 = .ok (.iastore, 1) := by decide +kernel
theorem dX1_rateByRule_76 : decode cX1_rateByRule 76 = .ok (.aload 4, 2) := by decide +kernel
theorem dX1_rateByRule_78 : decode cX1_rateByRule 78 = .ok (.aload 4, 2) := by decide +kernel
theorem dX1_rateByRule_80 : decode cX1_rateByRule 80 = .ok (.getfield 79, 3) := by decide +kernel
theorem dX1_rateByRule_83 : decode cX1_rateByRule 83 = .ok (.aload 4, 2) := by decide +kernel
theorem dX1_rateByRule_85 : decode cX1_rateByRule 85 = .ok (.getfield 82, 3) := by decide +kernel
theorem dX1_rateByRule_88 : decode cX1_rateByRule 88 = .ok (.invokevirtual 85, 3) := by decide +kernel
theorem dX1_rateByRule_91 : decode cX1_rateByRule 91 = .ok (.ireturn, 1) := by decide +kernel
def f_X1_rateByRule (o : Nat) (p1 : Int32) (p2 : Int32) (p3 : Int32) (m : zz_Mem) : Option (Int32 × zz_Mem) :=
  zz_bndR (f_X3_hasRates m) fun r1 =>
  if r1 = 0 then (
  some (p2 + p3, m))
  else (
  zz_letM (zz_setI m 11 0 p2) fun m2 =>
  zz_bndR (f_X8_daysOf m2 p1) fun r3 =>
  zz_letM (zz_setI m2 11 1 r3) fun m4 =>
  zz_ix p1 8 <|
  zz_letM (zz_setI m4 11 2 (m4.1 4 p1.toNatClampNeg)) fun m5 =>
  zz_letM (zz_setI m5 11 3 p3) fun m6 =>
  zz_letM (zz_setI m6 11 4 p1) fun m7 =>
  zz_bnd (f_X3_value (m7.1 9 4) (m7.1 9 5) m7) fun r8 m9 =>
  some (r8, m9))
theorem k_X1_rateByRule {l : Launch} {G : zz_G} (hN : 107 ≤ zz_N G) {o : Nat} (ho : zz_isCurve G o) : ∀ (p1 : Int32) (p2 : Int32) (p3 : Int32) (m : zz_Mem), zz_Con zz_sh l G mX1_rateByRule 2 [.ref (zz_a G o), .int p1, .int p2, .int p3] zz_vI zz_m2 (f_X1_rateByRule o p1 p2 p3 m) m := by
  intro p1 p2 p3 m
  refine zz_con (lv := [(0, .ref (zz_a G o)), (1, .int p1), (2, .int p2), (3, .int p3)]) (by decide +kernel) (Nat.le_of_ble_eq_true rfl) rfl ?_
  unfold f_X1_rateByRule
  refine zs_aload_n dX1_rateByRule_0 rfl 0 rfl ?_
  refine zs_getR fl_X1_25 dX1_rateByRule_1 (ho).1 rfl ?_
  refine zs_getR fl_X1_58 dX1_rateByRule_4 (sh_2 hN) rfl ?_
  refine zs_astore [(4, .ref (zz_a G 9)), (0, .ref (zz_a G o)), (1, .int p1), (2, .int p2), (3, .int p3)] dX1_rateByRule_7 (Nat.le_of_ble_eq_true rfl) rfl ?_
  refine zs_aload dX1_rateByRule_9 0 rfl ?_
  refine zs_cV_iR (rest := []) (k_X3_hasRates hN  _) dX1_rateByRule_11 lv_X1_62 ok_X3_hasRates (zz_rcv_o (sh_9 hN) rfl) (Nat.le_of_ble_eq_true rfl) rfl rfl (Nat.le_of_ble_eq_true rfl) (fun r1 => ?_)
  refine zs_if_ne (tgt := 21) dX1_rateByRule_14 (by decide) ?_ ?_
  · refine zs_aload dX1_rateByRule_21 0 rfl ?_
    refine zs_getR fl_X1_68 dX1_rateByRule_23 (sh_9 hN) rfl ?_
    refine zs_iconst (v := (0 : Int32)) dX1_rateByRule_26 ci_0 ?_
    refine zs_iload_n dX1_rateByRule_27 rfl 3 rfl ?_
    refine zs_iastC dX1_rateByRule_28 (sh_11 hN) vin_0_5 clp_0 (fun m2 => ?_)
    refine zs_aload dX1_rateByRule_29 0 rfl ?_
    refine zs_getR fl_X1_68 dX1_rateByRule_31 (sh_9 hN) rfl ?_
    refine zs_iconst (v := (1 : Int32)) dX1_rateByRule_34 ci_1 ?_
    refine zs_aload_n dX1_rateByRule_35 rfl 1 rfl ?_
    refine zs_getR fl_X1_29 dX1_rateByRule_36 (ho).1 rfl ?_
    refine zs_iload_n dX1_rateByRule_39 rfl 2 rfl ?_
    refine zs_cV_iR (rest := [.int (1 : Int32), .ref (zz_a G 11)]) (k_X8_daysOf hN _ _) dX1_rateByRule_40 lv_X1_71 ok_X8_daysOf (zz_rcv_o (sh_72 hN) rfl) (Nat.le_of_ble_eq_true rfl) rfl rfl (Nat.le_of_ble_eq_true rfl) (fun r3 => ?_)
    refine zs_iastC dX1_rateByRule_43 (sh_11 hN) vin_1_5 clp_1 (fun m4 => ?_)
    refine zs_aload dX1_rateByRule_44 0 rfl ?_
    refine zs_getR fl_X1_68 dX1_rateByRule_46 (sh_9 hN) rfl ?_
    refine zs_iconst (v := (2 : Int32)) dX1_rateByRule_49 ci_2 ?_
    refine zs_aload_n dX1_rateByRule_50 rfl 1 rfl ?_
    refine zs_getR fl_X1_25 dX1_rateByRule_51 (ho).1 rfl ?_
    refine zs_getR fl_X1_76 dX1_rateByRule_54 (sh_2 hN) rfl ?_
    refine zs_iload_n dX1_rateByRule_57 rfl 2 rfl ?_
    refine zs_ialdG dX1_rateByRule_58 (sh_4 hN) ?_
    refine zs_iastC dX1_rateByRule_59 (sh_11 hN) vin_2_5 clp_2 (fun m5 => ?_)
    refine zs_aload dX1_rateByRule_60 0 rfl ?_
    refine zs_getR fl_X1_68 dX1_rateByRule_62 (sh_9 hN) rfl ?_
    refine zs_iconst (v := (3 : Int32)) dX1_rateByRule_65 ci_3 ?_
    refine zs_iload_n dX1_rateByRule_66 rfl 4 rfl ?_
    refine zs_iastC dX1_rateByRule_67 (sh_11 hN) vin_3_5 clp_3 (fun m6 => ?_)
    refine zs_aload dX1_rateByRule_68 0 rfl ?_
    refine zs_getR fl_X1_68 dX1_rateByRule_70 (sh_9 hN) rfl ?_
    refine zs_iconst (v := (4 : Int32)) dX1_rateByRule_73 ci_4 ?_
    refine zs_iload_n dX1_rateByRule_74 rfl 2 rfl ?_
    refine zs_iastC dX1_rateByRule_75 (sh_11 hN) vin_4_5 clp_4 (fun m7 => ?_)
    refine zs_aload dX1_rateByRule_76 0 rfl ?_
    refine zs_aload dX1_rateByRule_78 0 rfl ?_
    refine zs_getI fl_X1_79 dX1_rateByRule_80 (sh_9 hN) rfl ?_
    refine zs_aload dX1_rateByRule_83 0 rfl ?_
    refine zs_getI fl_X1_82 dX1_rateByRule_85 (sh_9 hN) rfl ?_
    refine zs_cV_iW (rest := []) (k_X3_value hN _ _ _) dX1_rateByRule_88 lv_X1_85 ok_X3_value (zz_rcv_o (sh_9 hN) rfl) (Nat.le_of_ble_eq_true rfl) rfl rfl (Nat.le_of_ble_eq_true rfl) (fun r8 m9 => ?_)
    exact zs_iret dX1_rateByRule_91 rfl rfl rfl
  · refine zs_iload_n dX1_rateByRule_17 rfl 3 rfl ?_
    refine zs_iload_n dX1_rateByRule_18 rfl 4 rfl ?_
    refine zs_iadd dX1_rateByRule_19 ?_
    exact zs_iret dX1_rateByRule_20 rfl rfl rfl
/-! X1_countRates: PillarDesk$Curve.countRates(LPillarDesk$Stand;I)V -/
theorem dX1_countRates_0 : decode cX1_countRates 0 = .ok (.iconst 0, 1) := by decide +kernel
theorem dX1_countRates_1 : decode cX1_countRates 1 = .ok (.istore_n 3, 1) := by decide +kernel
theorem dX1_countRates_2 : decode cX1_countRates 2 = .ok (.iload_n 3, 1) := by decide +kernel
theorem dX1_countRates_3 : decode cX1_countRates 3 = .ok (.aload_n 0, 1) := by decide +kernel
theorem dX1_countRates_4 : decode cX1_countRates 4 = .ok (.getfield 25, 3) := by decide +kernel
theorem dX1_countRates_7 : decode cX1_countRates 7 = .ok (.getfield 39, 3) := by decide +kernel
theorem dX1_countRates_10 : decode cX1_countRates 10 = .ok (.if_icmp .ge 36, 3) := by decide +kernel
theorem dX1_countRates_13 : decode cX1_countRates 13 = .ok (.iload_n 3, 1) := by decide +kernel
theorem dX1_countRates_14 : decode cX1_countRates 14 = .ok (.bipush 8, 2) := by decide +kernel
theorem dX1_countRates_16 : decode cX1_countRates 16 = .ok (.if_icmp .ge 30, 3) := by decide +kernel
theorem dX1_countRates_19 : decode cX1_countRates 19 = .ok (.aload_n 0, 1) := by decide +kernel
theorem dX1_countRates_20 : decode cX1_countRates 20 = .ok (.getfield 9, 3) := by decide +kernel
theorem dX1_countRates_23 : decode cX1_countRates 23 = .ok (.iload_n 3, 1) := by decide +kernel
theorem dX1_countRates_24 : decode cX1_countRates 24 = .ok (.aload_n 0, 1) := by decide +kernel
theorem dX1_countRates_25 : decode cX1_countRates 25 = .ok (.iload_n 3, 1) := by decide +kernel
theorem dX1_countRates_26 : decode cX1_countRates 26 = .ok (.aload_n 1, 1) := by decide +kernel
theorem dX1_countRates_27 : decode cX1_countRates 27 = .ok (.getfield 45, 3) := by decide +kernel
theorem dX1_countRates_30 : decode cX1_countRates 30 = .ok (.iload_n 3, 1) := by decide +kernel
theorem dX1_countRates_31 : decode cX1_countRates 31 = .ok (.iaload, 1) := by decide +kernel
theorem dX1_countRates_32 : decode cX1_countRates 32 = .ok (.iload_n 2, 1) := by decide +kernel
theorem dX1_countRates_33 : decode cX1_countRates 33 = .ok (.invokevirtual 50, 3) := by decide +kernel
theorem dX1_countRates_36 : decode cX1_countRates 36 = .ok (.invokestatic 54, 3) := by decide +kernel
theorem dX1_countRates_39 : decode cX1_countRates 39 = .ok (.iastore, 1) := by decide +kernel
theorem dX1_countRates_40 : decode cX1_countRates 40 = .ok (.iinc 3 1, 3) := by decide +kernel
theorem dX1_countRates_43 : decode cX1_countRates 43 = .ok (.goto (-41), 3) := by decide +kernel
theorem dX1_countRates_46 : decode cX1_countRates 46 = .ok (.return_, 1) := by decide +kernel
def f_X1_countRates_2 (o : Nat) (o0 : Nat)  : Nat → Int32 → Int32 → zz_Mem → Option zz_Mem
  | 0, _, _, _ => none
  | n + 1, v2, v3, m =>
  if (m.1 2 5) ≤ v3 then (
  some m)
  else (
  if (8 : Int32) ≤ v3 then (
  some m)
  else (
  zz_ix v3 8 <|
  zz_bnd (f_X1_rateByRule o v3 (m.1 (o0 + 1) v3.toNatClampNeg) v2 m) fun r1 m2 =>
  zz_bndR (f_X11_inRateBounds r1) fun r3 =>
  zz_ix v3 8 <| zz_letM (zz_setI m2 (o + 1) v3.toNatClampNeg r3) fun m4 =>
  zz_letI (v3 + (1 : Int32)) fun x5 =>
  f_X1_countRates_2 o o0 n v2 x5 m4))
theorem t_X1_countRates_2 {l : Launch} {G : zz_G} (hN : 107 ≤ zz_N G) {o : Nat} {o0 : Nat} (ho : zz_isCurve G o) (ho0 : zz_isStand G o0)  : ∀ (n : Nat) (v2 : Int32) (v3 : Int32) (m : zz_Mem), zz_Sim zz_sh l G mX1_countRates 3 zz_vV zz_mV (f_X1_countRates_2 o o0 n v2 v3 m) 2 [(0, .ref (zz_a G o)), (1, .ref (zz_a G o0)), (2, .int v2), (3, .int v3)] [] m := by
  intro n
  induction n with
  | zero => intro _ _ _; exact zs_none
  | succ n ih =>
    intro v2 v3 m
    rw [f_X1_countRates_2]
    refine zs_iload_n dX1_countRates_2 rfl 3 rfl ?_
    refine zs_aload_n dX1_countRates_3 rfl 0 rfl ?_
    refine zs_getR fl_X1_25 dX1_countRates_4 (ho).1 rfl ?_
    refine zs_getI fl_X1_39 dX1_countRates_7 (sh_2 hN) rfl ?_
    refine zs_icmp_ge (tgt := 46) dX1_countRates_10 (by decide) ?_ ?_
    · exact zs_vret dX1_countRates_46 rfl rfl rfl
    · refine zs_iload_n dX1_countRates_13 rfl 3 rfl ?_
      refine zs_bipush (v := (8 : Int32)) dX1_countRates_14 cb_8 ?_
      refine zs_icmp_ge (tgt := 46) dX1_countRates_16 (by decide) ?_ ?_
      · exact zs_vret dX1_countRates_46 rfl rfl rfl
      · refine zs_aload_n dX1_countRates_19 rfl 0 rfl ?_
        refine zs_getR fl_X1_9 dX1_countRates_20 (ho).1 rfl ?_
        refine zs_iload_n dX1_countRates_23 rfl 3 rfl ?_
        refine zs_aload_n dX1_countRates_24 rfl 0 rfl ?_
        refine zs_iload_n dX1_countRates_25 rfl 3 rfl ?_
        refine zs_aload_n dX1_countRates_26 rfl 1 rfl ?_
        refine zs_getR fl_X1_45 dX1_countRates_27 (ho0).1 rfl ?_
        refine zs_iload_n dX1_countRates_30 rfl 3 rfl ?_
        refine zs_ialdG dX1_countRates_31 (ho0).2.1 ?_
        refine zs_iload_n dX1_countRates_32 rfl 2 rfl ?_
        refine zs_cV_iW (rest := [.int v3, .ref (zz_a G (o + 1))]) (k_X1_rateByRule hN (ho) _ _ _ _) dX1_countRates_33 lv_X1_50 ok_X1_rateByRule (zz_rcv_o (ho).1 rfl) (Nat.le_of_ble_eq_true rfl) rfl rfl (Nat.le_of_ble_eq_true rfl) (fun r1 m2 => ?_)
        refine zs_cN_iR (rest := [.int v3, .ref (zz_a G (o + 1))]) (k_X11_inRateBounds hN _ _) dX1_countRates_36 ln_X1_54 ok_X11_inRateBounds (Nat.le_of_ble_eq_true rfl) rfl rfl (Nat.le_of_ble_eq_true rfl) (fun r3 => ?_)
        refine zs_iastG dX1_countRates_39 (ho).2.1 (fun m4 => ?_)
        refine zs_iinc (fun y => [(3, .int y), (0, .ref (zz_a G o)), (1, .ref (zz_a G o0)), (2, .int v2)]) dX1_countRates_40 3 rfl ci_1 (Nat.le_of_ble_eq_true rfl) (fun _ => rfl) (fun x5 => ?_)
        refine zs_goto (tgt := 2) dX1_countRates_43 (by decide) ?_
        refine zs_sub [1, 2, 3, 0] rfl ?_
        exact ih _ _ _
def f_X1_countRates (o : Nat) (o0 : Nat) (p2 : Int32) (m : zz_Mem) : Option zz_Mem :=
  f_X1_countRates_2 o o0 zz_fuel p2 (0 : Int32) m
theorem k_X1_countRates {l : Launch} {G : zz_G} (hN : 107 ≤ zz_N G) {o : Nat} {o0 : Nat} (ho : zz_isCurve G o) (ho0 : zz_isStand G o0) : ∀ (p2 : Int32) (m : zz_Mem), zz_Con zz_sh l G mX1_countRates 3 [.ref (zz_a G o), .ref (zz_a G o0), .int p2] zz_vV zz_mV (f_X1_countRates o o0 p2 m) m := by
  intro p2 m
  refine zz_con (lv := [(0, .ref (zz_a G o)), (1, .ref (zz_a G o0)), (2, .int p2)]) (by decide +kernel) (Nat.le_of_ble_eq_true rfl) rfl ?_
  unfold f_X1_countRates
  refine zs_iconst (v := (0 : Int32)) dX1_countRates_0 ci_0 ?_
  refine zs_istore_n [(3, .int (0 : Int32)), (0, .ref (zz_a G o)), (1, .ref (zz_a G o0)), (2, .int p2)] dX1_countRates_1 rfl (Nat.le_of_ble_eq_true rfl) rfl ?_
  refine zs_sub [1, 2, 3, 0] rfl ?_
  exact t_X1_countRates_2 hN ho ho0 zz_fuel _ _ _
/-! X1_factorAt: PillarDesk$Curve.factorAt(I)I -/
theorem dX1_factorAt_0 : decode cX1_factorAt 0 = .ok (.aload_n 0, 1) := by decide +kernel
theorem dX1_factorAt_1 : decode cX1_factorAt 1 = .ok (.getfield 29, 3) := by decide +kernel
theorem dX1_factorAt_4 : decode cX1_factorAt 4 = .ok (.iload_n 1, 1) := by decide +kernel
theorem dX1_factorAt_5 : decode cX1_factorAt 5 = .ok (.invokevirtual 190, 3) := by decide +kernel
theorem dX1_factorAt_8 : decode cX1_factorAt 8 = .ok (.istore_n 2, 1) := by decide +kernel
theorem dX1_factorAt_9 : decode cX1_factorAt 9 = .ok (.iload_n 2, 1) := by decide +kernel
theorem dX1_factorAt_10 : decode cX1_factorAt 10 = .ok (.iconst 1, 1) := by decide +kernel
theorem dX1_factorAt_11 : decode cX1_factorAt 11 = .ok (.iadd, 1) := by decide +kernel
theorem dX1_factorAt_12 : decode cX1_factorAt 12 = .ok (.aload_n 0, 1) := by decide +kernel
theorem dX1_factorAt_13 : decode cX1_factorAt 13 = .ok (.getfield 29, 3) := by decide +kernel
theorem dX1_factorAt_16 : decode cX1_factorAt 16 = .ok (.getfield 95, 3) := by decide +kernel
theorem dX1_factorAt_19 : decode cX1_factorAt 19 = .ok (.if_icmp .ge 14, 3) := by decide +kernel
theorem dX1_factorAt_22 : decode cX1_factorAt 22 = .ok (.aload_n 0, 1) := by decide +kernel
theorem dX1_factorAt_23 : decode cX1_factorAt 23 = .ok (.getfield 25, 3) := by decide +kernel
theorem dX1_factorAt_26 : decode cX1_factorAt 26 = .ok (.getfield 163, 3) := by decide +kernel
theorem dX1_factorAt_29 : decode cX1_factorAt 29 = .ok (.iconst 1, 1) := by decide +kernel
theorem dX1_factorAt_30 : decode cX1_factorAt 30 = .ok (.if_icmp .ne 10, 3) := by decide +kernel
theorem dX1_factorAt_33 : decode cX1_factorAt 33 = .ok (.aload_n 0, 1) := by decide +kernel
theorem dX1_factorAt_34 : decode cX1_factorAt 34 = .ok (.getfield 15, 3) := by decide +kernel
theorem dX1_factorAt_37 : decode cX1_factorAt 37 = .ok (.iload_n 2, 1) := by decide +kernel
theorem dX1_factorAt_38 : decode cX1_factorAt 38 = .ok (.iaload, 1) := by decide +kernel
theorem dX1_factorAt_39 : decode cX1_factorAt 39 = .ok (.ireturn, 1) := by decide +kernel
theorem dX1_factorAt_40 : decode cX1_factorAt 40 = .ok (.aload_n 0, 1) := by decide +kernel
theorem dX1_factorAt_41 : decode cX1_factorAt 41 = .ok (.getfield 29, 3) := by decide +kernel
theorem dX1_factorAt_44 : decode cX1_factorAt 44 = .ok (.getfield 102, 3) := by decide +kernel
theorem dX1_factorAt_47 : decode cX1_factorAt 47 = .ok (.iload_n 2, 1) := by decide +kernel
theorem dX1_factorAt_48 : decode cX1_factorAt 48 = .ok (.iconst 1, 1) := by decide +kernel
theorem dX1_factorAt_49 : decode cX1_factorAt 49 = .ok (.iadd, 1) := by decide +kernel
theorem dX1_factorAt_50 : decode cX1_factorAt 50 = .ok (.iaload, 1) := by decide +kernel
theorem dX1_factorAt_51 : decode cX1_factorAt 51 = .ok (.aload_n 0, 1) := by decide +kernel
theorem dX1_factorAt_52 : decode cX1_factorAt 52 = .ok (.getfield 29, 3) := by decide +kernel
theorem dX1_factorAt_55 : decode cX1_factorAt 55 = .ok (.getfield 102, 3) := by decide +kernel
theorem dX1_factorAt_58 : decode cX1_factorAt 58 = .ok (.iload_n 2, 1) := by decide +kernel
theorem dX1_factorAt_59 : decode cX1_factorAt 59 = .ok (.iaload, 1) := by decide +kernel
theorem dX1_factorAt_60 : decode cX1_factorAt 60 = .ok (.isub, 1) := by decide +kernel
theorem dX1_factorAt_61 : decode cX1_factorAt 61 = .ok (.i2l, 1) := by decide +kernel
theorem dX1_factorAt_62 : decode cX1_factorAt 62 = .ok (.lstore_n 3, 1) := by decide +kernel
theorem dX1_factorAt_63 : decode cX1_factorAt 63 = .ok (.lload_n 3, 1) := by decide +kernel
theorem dX1_factorAt_64 : decode cX1_factorAt 64 = .ok (.lconst 0, 1) := by decide +kernel
theorem dX1_factorAt_65 : decode cX1_factorAt 65 = .ok (.lcmp, 1) := by decide +kernel
theorem dX1_factorAt_66 : decode cX1_factorAt 66 = .ok (.ifCond .gt 10, 3) := by decide +kernel
theorem dX1_factorAt_69 : decode cX1_factorAt 69 = .ok (.aload_n 0, 1) := by decide +kernel
theorem dX1_factorAt_70 : decode cX1_factorAt 70 = .ok (.getfield 15, 3) := by decide +kernel
theorem dX1_factorAt_73 : decode cX1_factorAt 73 = .ok (.iload_n 2, 1) := by decide +kernel
theorem dX1_factorAt_74 : decode cX1_factorAt 74 = .ok (.iaload, 1) := by decide +kernel
theorem dX1_factorAt_75 : decode cX1_factorAt 75 = .ok (.ireturn, 1) := by decide +kernel
theorem dX1_factorAt_76 : decode cX1_factorAt 76 = .ok (.aload_n 0, 1) := by decide +kernel
theorem dX1_factorAt_77 : decode cX1_factorAt 77 = .ok (.getfield 15, 3) := by decide +kernel
theorem dX1_factorAt_80 : decode cX1_factorAt 80 = .ok (.iload_n 2, 1) := by decide +kernel
theorem dX1_factorAt_81 : decode cX1_factorAt 81 = .ok (.iconst 1, 1) := by decide +kernel
theorem dX1_factorAt_82 : decode cX1_factorAt 82 = .ok (.iadd, 1) := by decide +kernel
theorem dX1_factorAt_83 : decode cX1_factorAt 83 = .ok (.iaload, 1) := by decide +kernel
theorem dX1_factorAt_84 : decode cX1_factorAt 84 = .ok (.aload_n 0, 1) := by decide +kernel
theorem dX1_factorAt_85 : decode cX1_factorAt 85 = .ok (.getfield 15, 3) := by decide +kernel
theorem dX1_factorAt_88 : decode cX1_factorAt 88 = .ok (.iload_n 2, 1) := by decide +kernel
theorem dX1_factorAt_89 : decode cX1_factorAt 89 = .ok (.iaload, 1) := by decide +kernel
theorem dX1_factorAt_90 : decode cX1_factorAt 90 = .ok (.isub, 1) := by decide +kernel
theorem dX1_factorAt_91 : decode cX1_factorAt 91 = .ok (.i2l, 1) := by decide +kernel
theorem dX1_factorAt_92 : decode cX1_factorAt 92 = .ok (.lstore 5, 2) := by decide +kernel
theorem dX1_factorAt_94 : decode cX1_factorAt 94 = .ok (.aload_n 0, 1) := by decide +kernel
theorem dX1_factorAt_95 : decode cX1_factorAt 95 = .ok (.getfield 15, 3) := by decide +kernel
theorem dX1_factorAt_98 : decode cX1_factorAt 98 = .ok (.iload_n 2, 1) := by decide +kernel
theorem dX1_factorAt_99 : decode cX1_factorAt 99 = .ok (.iaload, 1) := by decide +kernel
theorem dX1_factorAt_100 : decode cX1_factorAt 100 = .ok (.lload 5, 2) := by decide +kernel
theorem dX1_factorAt_102 : decode cX1_factorAt 102 = .ok (.iload_n 1, 1) := by decide +kernel
theorem dX1_factorAt_103 : decode cX1_factorAt 103 = .ok (.aload_n 0, 1) := by decide +kernel
theorem dX1_factorAt_104 : decode cX1_factorAt 104 = .ok (.getfield 29, 3) := by decide +kernel
theorem dX1_factorAt_107 : decode cX1_factorAt 107 = .ok (.getfield 102, 3) := by decide +kernel
theorem dX1_factorAt_110 : decode cX1_factorAt 110 = .ok (.iload_n 2, 1) := by decide +kernel
theorem dX1_factorAt_111 : decode cX1_factorAt 111 = .ok (.iaload, 1) := by decide +kernel
theorem dX1_factorAt_112 : decode cX1_factorAt 112 = .ok (.isub, 1) := by decide +kernel
theorem dX1_factorAt_113 : decode cX1_factorAt 113 = .ok (.i2l, 1) := by decide +kernel
theorem dX1_factorAt_114 : decode cX1_factorAt 114 = .ok (.lmul, 1) := by decide +kernel
theorem dX1_factorAt_115 : decode cX1_factorAt 115 = .ok (.lload_n 3, 1) := by decide +kernel
theorem dX1_factorAt_116 : decode cX1_factorAt 116 = .ok (.invokestatic 166, 3) := by decide +kernel
theorem dX1_factorAt_119 : decode cX1_factorAt 119 = .ok (.l2i, 1) := by decide +kernel
theorem dX1_factorAt_120 : decode cX1_factorAt 120 = .ok (.iadd, 1) := by decide +kernel
theorem dX1_factorAt_121 : decode cX1_factorAt 121 = .ok (.ireturn, 1) := by decide +kernel
def f_X1_factorAt (o : Nat) (m : zz_Mem) (p1 : Int32) : Option Int32 :=
  zz_bndR (f_X8_pillarAt m p1) fun r1 =>
  if (m.1 72 8) ≤ (r1 + (1 : Int32)) then (
  zz_ix r1 9 <|
  some (m.1 (o + 2) r1.toNatClampNeg))
  else (
  if (m.1 2 1) = (1 : Int32) then (
  zz_ix r1 9 <|
  some (m.1 (o + 2) r1.toNatClampNeg))
  else (
  zz_ix (r1 + (1 : Int32)) 9 <|
  zz_ix r1 9 <|
  zz_letJ (((m.1 79 (r1 + (1 : Int32)).toNatClampNeg) - (m.1 79 r1.toNatClampNeg)).toInt64) fun y2 =>
  if (0 : Int64) < y2 then (
  zz_ix (r1 + (1 : Int32)) 9 <|
  zz_ix r1 9 <|
  zz_letJ (((m.1 (o + 2) (r1 + (1 : Int32)).toNatClampNeg) - (m.1 (o + 2) r1.toNatClampNeg)).toInt64) fun y3 =>
  zz_ix r1 9 <|
  zz_ix r1 9 <|
  zz_bndR (f_J9_floorDiv_f86c9 (y3 * ((p1 - (m.1 79 r1.toNatClampNeg)).toInt64)) y2) fun r4 =>
  some ((m.1 (o + 2) r1.toNatClampNeg) + r4.toInt32))
  else (
  zz_ix r1 9 <|
  some (m.1 (o + 2) r1.toNatClampNeg))))
theorem k_X1_factorAt {l : Launch} {G : zz_G} (hN : 107 ≤ zz_N G) {o : Nat} (ho : zz_isCurve G o) : ∀ (p1 : Int32) (m : zz_Mem), zz_Con zz_sh l G mX1_factorAt 1 [.ref (zz_a G o), .int p1] zz_vIr (zz_mC m) (f_X1_factorAt o m p1) m := by
  intro p1 m
  refine zz_con (lv := [(0, .ref (zz_a G o)), (1, .int p1)]) (by decide +kernel) (Nat.le_of_ble_eq_true rfl) rfl ?_
  unfold f_X1_factorAt
  refine zs_aload_n dX1_factorAt_0 rfl 0 rfl ?_
  refine zs_getR fl_X1_29 dX1_factorAt_1 (ho).1 rfl ?_
  refine zs_iload_n dX1_factorAt_4 rfl 1 rfl ?_
  refine zs_cV_iR (rest := []) (k_X8_pillarAt hN _ _) dX1_factorAt_5 lv_X1_190 ok_X8_pillarAt (zz_rcv_o (sh_72 hN) rfl) (Nat.le_of_ble_eq_true rfl) rfl rfl (Nat.le_of_ble_eq_true rfl) (fun r1 => ?_)
  refine zs_istore_n [(2, .int r1), (0, .ref (zz_a G o)), (1, .int p1)] dX1_factorAt_8 rfl (Nat.le_of_ble_eq_true rfl) rfl ?_
  refine zs_iload_n dX1_factorAt_9 rfl 0 rfl ?_
  refine zs_iconst (v := (1 : Int32)) dX1_factorAt_10 ci_1 ?_
  refine zs_iadd dX1_factorAt_11 ?_
  refine zs_aload_n dX1_factorAt_12 rfl 1 rfl ?_
  refine zs_getR fl_X1_29 dX1_factorAt_13 (ho).1 rfl ?_
  refine zs_getI fl_X1_95 dX1_factorAt_16 (sh_72 hN) rfl ?_
  refine zs_icmp_ge (tgt := 33) dX1_factorAt_19 (by decide) ?_ ?_
  · refine zs_aload_n dX1_factorAt_33 rfl 1 rfl ?_
    refine zs_getR fl_X1_15 dX1_factorAt_34 (ho).1 rfl ?_
    refine zs_iload_n dX1_factorAt_37 rfl 0 rfl ?_
    refine zs_ialdG dX1_factorAt_38 (ho).2.2.1 ?_
    exact zs_iret dX1_factorAt_39 rfl rfl rfl
  · refine zs_aload_n dX1_factorAt_22 rfl 1 rfl ?_
    refine zs_getR fl_X1_25 dX1_factorAt_23 (ho).1 rfl ?_
    refine zs_getI fl_X1_163 dX1_factorAt_26 (sh_2 hN) rfl ?_
    refine zs_iconst (v := (1 : Int32)) dX1_factorAt_29 ci_1 ?_
    refine zs_icmp_ne (tgt := 40) dX1_factorAt_30 (by decide) ?_ ?_
    · refine zs_aload_n dX1_factorAt_40 rfl 1 rfl ?_
      refine zs_getR fl_X1_29 dX1_factorAt_41 (ho).1 rfl ?_
      refine zs_getR fl_X1_102 dX1_factorAt_44 (sh_72 hN) rfl ?_
      refine zs_iload_n dX1_factorAt_47 rfl 0 rfl ?_
      refine zs_iconst (v := (1 : Int32)) dX1_factorAt_48 ci_1 ?_
      refine zs_iadd dX1_factorAt_49 ?_
      refine zs_ialdG dX1_factorAt_50 (sh_79 hN) ?_
      refine zs_aload_n dX1_factorAt_51 rfl 1 rfl ?_
      refine zs_getR fl_X1_29 dX1_factorAt_52 (ho).1 rfl ?_
      refine zs_getR fl_X1_102 dX1_factorAt_55 (sh_72 hN) rfl ?_
      refine zs_iload_n dX1_factorAt_58 rfl 0 rfl ?_
      refine zs_ialdG dX1_factorAt_59 (sh_79 hN) ?_
      refine zs_isub dX1_factorAt_60 ?_
      refine zs_i2l dX1_factorAt_61 ?_
      refine zs_letJ (fun y2 => ?_)
      refine zs_lstore_n [(3, .long y2), (2, .int r1), (0, .ref (zz_a G o)), (1, .int p1)] dX1_factorAt_62 rfl (Nat.le_of_ble_eq_true rfl) rfl ?_
      refine zs_lload_n dX1_factorAt_63 rfl 0 rfl ?_
      refine zs_lconst (v := (0 : Int64)) dX1_factorAt_64 rfl ?_
      refine zs_lcmp_gt (tgt := 76) dX1_factorAt_65 dX1_factorAt_66 (by decide) ?_ ?_
      · refine zs_aload_n dX1_factorAt_76 rfl 2 rfl ?_
        refine zs_getR fl_X1_15 dX1_factorAt_77 (ho).1 rfl ?_
        refine zs_iload_n dX1_factorAt_80 rfl 1 rfl ?_
        refine zs_iconst (v := (1 : Int32)) dX1_factorAt_81 ci_1 ?_
        refine zs_iadd dX1_factorAt_82 ?_
        refine zs_ialdG dX1_factorAt_83 (ho).2.2.1 ?_
        refine zs_aload_n dX1_factorAt_84 rfl 2 rfl ?_
        refine zs_getR fl_X1_15 dX1_factorAt_85 (ho).1 rfl ?_
        refine zs_iload_n dX1_factorAt_88 rfl 1 rfl ?_
        refine zs_ialdG dX1_factorAt_89 (ho).2.2.1 ?_
        refine zs_isub dX1_factorAt_90 ?_
        refine zs_i2l dX1_factorAt_91 ?_
        refine zs_letJ (fun y3 => ?_)
        refine zs_lstore [(5, .long y3), (3, .long y2), (2, .int r1), (0, .ref (zz_a G o)), (1, .int p1)] dX1_factorAt_92 (Nat.le_of_ble_eq_true rfl) rfl ?_
        refine zs_aload_n dX1_factorAt_94 rfl 3 rfl ?_
        refine zs_getR fl_X1_15 dX1_factorAt_95 (ho).1 rfl ?_
        refine zs_iload_n dX1_factorAt_98 rfl 2 rfl ?_
        refine zs_ialdG dX1_factorAt_99 (ho).2.2.1 ?_
        refine zs_lload dX1_factorAt_100 0 rfl ?_
        refine zs_iload_n dX1_factorAt_102 rfl 4 rfl ?_
        refine zs_aload_n dX1_factorAt_103 rfl 3 rfl ?_
        refine zs_getR fl_X1_29 dX1_factorAt_104 (ho).1 rfl ?_
        refine zs_getR fl_X1_102 dX1_factorAt_107 (sh_72 hN) rfl ?_
        refine zs_iload_n dX1_factorAt_110 rfl 2 rfl ?_
        refine zs_ialdG dX1_factorAt_111 (sh_79 hN) ?_
        refine zs_isub dX1_factorAt_112 ?_
        refine zs_i2l dX1_factorAt_113 ?_
        refine zs_lmul dX1_factorAt_114 ?_
        refine zs_lload_n dX1_factorAt_115 rfl 1 rfl ?_
        refine zs_cS_jR (rest := [.int (m.1 (o + 2) r1.toNatClampNeg)]) (k_J9_floorDiv_f86c9 hN _ _ _) dX1_factorAt_116 ls_X1_166 ok_J9_floorDiv_f86c9 (Nat.le_of_ble_eq_true rfl) rfl rfl (Nat.le_of_ble_eq_true rfl) (fun r4 => ?_)
        refine zs_l2i dX1_factorAt_119 ?_
        refine zs_iadd dX1_factorAt_120 ?_
        exact zs_iret dX1_factorAt_121 rfl rfl rfl
      · refine zs_aload_n dX1_factorAt_69 rfl 2 rfl ?_
        refine zs_getR fl_X1_15 dX1_factorAt_70 (ho).1 rfl ?_
        refine zs_iload_n dX1_factorAt_73 rfl 1 rfl ?_
        refine zs_ialdG dX1_factorAt_74 (ho).2.2.1 ?_
        exact zs_iret dX1_factorAt_75 rfl rfl rfl
    · refine zs_aload_n dX1_factorAt_33 rfl 1 rfl ?_
      refine zs_getR fl_X1_15 dX1_factorAt_34 (ho).1 rfl ?_
      refine zs_iload_n dX1_factorAt_37 rfl 0 rfl ?_
      refine zs_ialdG dX1_factorAt_38 (ho).2.2.1 ?_
      exact zs_iret dX1_factorAt_39 rfl rfl rfl
/-! X1_takeIn: PillarDesk$Curve.takeIn(JII)V -/
theorem dX1_takeIn_0 : decode cX1_takeIn 0 = .ok (.aload_n 0, 1) := by decide +kernel
theorem dX1_takeIn_1 : decode cX1_takeIn 1 = .ok (.getfield 29, 3) := by decide +kernel
theorem dX1_takeIn_4 : decode cX1_takeIn 4 = .ok (.getfield 102, 3) := by decide +kernel
theorem dX1_takeIn_7 : decode cX1_takeIn 7 = .ok (.iload 4, 2) := by decide +kernel
theorem dX1_takeIn_9 : decode cX1_takeIn 9 = .ok (.iconst 1, 1) := by decide +kernel
theorem dX1_takeIn_10 : decode cX1_takeIn 10 = .ok (.isub, 1) := by decide +kernel
theorem dX1_takeIn_11 : decode cX1_takeIn 11 = .ok (.iaload, 1) := by decide +kernel
theorem dX1_takeIn_12 : decode cX1_takeIn 12 = .ok (.istore 5, 2) := by decide +kernel
theorem dX1_takeIn_14 : decode cX1_takeIn 14 = .ok (.iload_n 3, 1) := by decide +kernel
theorem dX1_takeIn_15 : decode cX1_takeIn 15 = .ok (.aload_n 0, 1) := by decide +kernel
theorem dX1_takeIn_16 : decode cX1_takeIn 16 = .ok (.getfield 29, 3) := by decide +kernel
theorem dX1_takeIn_19 : decode cX1_takeIn 19 = .ok (.getfield 102, 3) := by decide +kernel
theorem dX1_takeIn_22 : decode cX1_takeIn 22 = .ok (.iload 4, 2) := by decide +kernel
theorem dX1_takeIn_24 : decode cX1_takeIn 24 = .ok (.iaload, 1) := by decide +kernel
theorem dX1_takeIn_25 : decode cX1_takeIn 25 = .ok (.if_icmp .lt 16, 3) := by decide +kernel
theorem dX1_takeIn_28 : decode cX1_takeIn 28 = .ok (.aload_n 0, 1) := by decide +kernel
theorem dX1_takeIn_29 : decode cX1_takeIn 29 = .ok (.dup, 1) := by decide +kernel
theorem dX1_takeIn_30 : decode cX1_takeIn 30 = .ok (.getfield 137, 3) := by decide +kernel
theorem dX1_takeIn_33 : decode cX1_takeIn 33 = .ok (.lload_n 1, 1) := by decide +kernel
theorem dX1_takeIn_34 : decode cX1_takeIn 34 = .ok (.ladd, 1) := by decide +kernel
theorem dX1_takeIn_35 : decode cX1_takeIn 35 = .ok (.putfield 137, 3) := by decide +kernel
theorem dX1_takeIn_38 : decode cX1_takeIn 38 = .ok (.goto 100, 3) := by decide +kernel
theorem dX1_takeIn_41 : decode cX1_takeIn 41 = .ok (.iload_n 3, 1) := by decide +kernel
theorem dX1_takeIn_42 : decode cX1_takeIn 42 = .ok (.iload 5, 2) := by decide +kernel
theorem dX1_takeIn_44 : decode cX1_takeIn 44 = .ok (.if_icmp .gt 23, 3) := by decide +kernel
theorem dX1_takeIn_47 : decode cX1_takeIn 47 = .ok (.aload_n 0, 1) := by decide +kernel
theorem dX1_takeIn_48 : decode cX1_takeIn 48 = .ok (.dup, 1) := by decide +kernel
theorem dX1_takeIn_49 : decode cX1_takeIn 49 = .ok (.getfield 140, 3) := by decide +kernel
theorem dX1_takeIn_52 : decode cX1_takeIn 52 = .ok (.lload_n 1, 1) := by decide +kernel
theorem dX1_takeIn_53 : decode cX1_takeIn 53 = .ok (.aload_n 0, 1) := by decide +kernel
theorem dX1_takeIn_54 : decode cX1_takeIn 54 = .ok (.iload_n 3, 1) := by decide +kernel
theorem dX1_takeIn_55 : decode cX1_takeIn 55 = .ok (.invokevirtual 160, 3) := by decide +kernel
theorem dX1_takeIn_58 : decode cX1_takeIn 58 = .ok (.i2l, 1) := by decide +kernel
theorem dX1_takeIn_59 : decode cX1_takeIn 59 = .ok (.lmul, 1) := by decide +kernel
theorem dX1_takeIn_60 : decode cX1_takeIn 60 = .ok (.lsub, 1) := by decide +kernel
theorem dX1_takeIn_61 : decode cX1_takeIn 61 = .ok (.putfield 140, 3) := by decide +kernel
theorem dX1_takeIn_64 : decode cX1_takeIn 64 = .ok (.goto 74, 3) := by decide +kernel
theorem dX1_takeIn_67 : decode cX1_takeIn 67 = .ok (.aload_n 0, 1) := by decide +kernel
theorem dX1_takeIn_68 : decode cX1_takeIn 68 = .ok (.getfield 25, 3) := by decide +kernel
theorem dX1_takeIn_71 : decode cX1_takeIn 71 = .ok (.getfield 163, 3) := by decide +kernel
theorem dX1_takeIn_74 : decode cX1_takeIn 74 = .ok (.iconst 1, 1) := by decide +kernel
theorem dX1_takeIn_75 : decode cX1_takeIn 75 = .ok (.if_icmp .ne 21, 3) := by decide +kernel
theorem dX1_takeIn_78 : decode cX1_takeIn 78 = .ok (.aload_n 0, 1) := by decide +kernel
theorem dX1_takeIn_79 : decode cX1_takeIn 79 = .ok (.dup, 1) := by decide +kernel
theorem dX1_takeIn_80 : decode cX1_takeIn 80 = .ok (.getfield 140, 3) := by decide +kernel
theorem dX1_takeIn_83 : decode cX1_takeIn 83 = .ok (.lload_n 1, 1) := by decide +kernel
theorem dX1_takeIn_84 : decode cX1_takeIn 84 = .ok (.aload_n 0, 1) := by decide +kernel
theorem dX1_takeIn_85 : decode cX1_takeIn 85 = .ok (.getfield 98, 3) := by decide +kernel
theorem dX1_takeIn_88 : decode cX1_takeIn 88 = .ok (.lmul, 1) := by decide +kernel
theorem dX1_takeIn_89 : decode cX1_takeIn 89 = .ok (.lsub, 1) := by decide +kernel
theorem dX1_takeIn_90 : decode cX1_takeIn 90 = .ok (.putfield 140, 3) := by decide +kernel
theorem dX1_takeIn_93 : decode cX1_takeIn 93 = .ok (.goto 45, 3) := by decide +kernel
theorem dX1_takeIn_96 : decode cX1_takeIn 96 = .ok (.aload_n 0, 1) := by decide +kernel
theorem dX1_takeIn_97 : decode cX1_takeIn 97 = .ok (.getfield 108, 3) := by decide +kernel
theorem dX1_takeIn_100 : decode cX1_takeIn 100 = .ok (.bipush 34, 2) := by decide +kernel
theorem dX1_takeIn_102 : decode cX1_takeIn 102 = .ok (.if_icmp .ge 36, 3) := by decide +kernel
theorem dX1_takeIn_105 : decode cX1_takeIn 105 = .ok (.aload_n 0, 1) := by decide +kernel
theorem dX1_takeIn_106 : decode cX1_takeIn 106 = .ok (.getfield 18, 3) := by decide +kernel
theorem dX1_takeIn_109 : decode cX1_takeIn 109 = .ok (.aload_n 0, 1) := by decide +kernel
theorem dX1_takeIn_110 : decode cX1_takeIn 110 = .ok (.getfield 108, 3) := by decide +kernel
theorem dX1_takeIn_113 : decode cX1_takeIn 113 = .ok (.lload_n 1, 1) := by decide +kernel
theorem dX1_takeIn_114 : decode cX1_takeIn 114 = .ok (.lastore, 1) := by decide +kernel
theorem dX1_takeIn_115 : decode cX1_takeIn 115 = .ok (.aload_n 0, 1) := by decide +kernel
theorem dX1_takeIn_116 : decode cX1_takeIn 116 = .ok (.getfield 22, 3) := by decide +kernel
theorem dX1_takeIn_119 : decode cX1_takeIn 119 = .ok (.aload_n 0, 1) := by decide +kernel
theorem dX1_takeIn_120 : decode cX1_takeIn 120 = .ok (.getfield 108, 3) := by decide +kernel
theorem dX1_takeIn_123 : decode cX1_takeIn 123 = .ok (.iload_n 3, 1) := by decide +kernel
theorem dX1_takeIn_124 : decode cX1_takeIn 124 = .ok (.iload 5, 2) := by decide +kernel
theorem dX1_takeIn_126 : decode cX1_takeIn 126 = .ok (.isub, 1) := by decide +kernel
theorem dX1_takeIn_127 : decode cX1_takeIn 127 = .ok (.iastore, 1) := by decide +kernel
theorem dX1_takeIn_128 : decode cX1_takeIn 128 = .ok (.aload_n 0, 1) := by decide +kernel
theorem dX1_takeIn_129 : decode cX1_takeIn 129 = .ok (.dup, 1) := by decide +kernel
theorem dX1_takeIn_130 : decode cX1_takeIn 130 = .ok (.getfield 108, 3) := by decide +kernel
theorem dX1_takeIn_133 : decode cX1_takeIn 133 = .ok (.iconst 1, 1) := by decide +kernel
theorem dX1_takeIn_134 : decode cX1_takeIn 134 = .ok (.iadd, 1) := by decide +kernel
theorem dX1_takeIn_135 : decode cX1_takeIn 135 = .ok (.putfield 108, 3) := by decide +kernel
theorem dX1_takeIn_138 : decode cX1_takeIn 138 = .ok (.return_, 1) := by decide +kernel
def f_X1_takeIn (o : Nat) (p1 : Int64) (p3 : Int32) (p4 : Int32) (m : zz_Mem) : Option zz_Mem :=
  zz_ix (p4 - (1 : Int32)) 9 <|
  zz_letI (m.1 79 (p4 - (1 : Int32)).toNatClampNeg) fun x1 =>
  zz_ix p4 9 <|
  if p3 < (m.1 79 p4.toNatClampNeg) then (
  if x1 < p3 then (
  if (m.1 2 1) = (1 : Int32) then (
  zz_letM (zz_setJ m o 8 ((m.2.1 o 8) - (p1 * (m.2.1 o 9)))) fun m5 =>
  some m5)
  else (
  if (34 : Int32) ≤ (m.1 o 6) then (
  some m)
  else (
  zz_ix (m.1 o 6) 34 <| zz_letM (zz_setJ m (o + 3) (m.1 o 6).toNatClampNeg p1) fun m2 =>
  zz_ix (m2.1 o 6) 34 <| zz_letM (zz_setI m2 (o + 4) (m2.1 o 6).toNatClampNeg (p3 - x1)) fun m3 =>
  zz_letM (zz_setI m3 o 6 ((m3.1 o 6) + (1 : Int32))) fun m4 =>
  some m4)))
  else (
  zz_bndR (f_X1_factorAt o m p3) fun r6 =>
  zz_letM (zz_setJ m o 8 ((m.2.1 o 8) - (p1 * r6.toInt64))) fun m7 =>
  some m7))
  else (
  zz_letM (zz_setJ m o 7 ((m.2.1 o 7) + p1)) fun m8 =>
  some m8)
theorem k_X1_takeIn {l : Launch} {G : zz_G} (hN : 107 ≤ zz_N G) {o : Nat} (ho : zz_isCurve G o) : ∀ (p1 : Int64) (p3 : Int32) (p4 : Int32) (m : zz_Mem), zz_Con zz_sh l G mX1_takeIn 2 [.ref (zz_a G o), .long p1, .int p3, .int p4] zz_vV zz_mV (f_X1_takeIn o p1 p3 p4 m) m := by
  intro p1 p3 p4 m
  refine zz_con (lv := [(0, .ref (zz_a G o)), (1, .long p1), (3, .int p3), (4, .int p4)]) (by decide +kernel) (Nat.le_of_ble_eq_true rfl) rfl ?_
  unfold f_X1_takeIn
  refine zs_aload_n dX1_takeIn_0 rfl 0 rfl ?_
  refine zs_getR fl_X1_29 dX1_takeIn_1 (ho).1 rfl ?_
  refine zs_getR fl_X1_102 dX1_takeIn_4 (sh_72 hN) rfl ?_
  refine zs_iload dX1_takeIn_7 3 rfl ?_
  refine zs_iconst (v := (1 : Int32)) dX1_takeIn_9 ci_1 ?_
  refine zs_isub dX1_takeIn_10 ?_
  refine zs_ialdG dX1_takeIn_11 (sh_79 hN) ?_
  refine zs_letI (fun x1 => ?_)
  refine zs_istore [(5, .int x1), (0, .ref (zz_a G o)), (1, .long p1), (3, .int p3), (4, .int p4)] dX1_takeIn_12 (Nat.le_of_ble_eq_true rfl) rfl ?_
  refine zs_iload_n dX1_takeIn_14 rfl 3 rfl ?_
  refine zs_aload_n dX1_takeIn_15 rfl 1 rfl ?_
  refine zs_getR fl_X1_29 dX1_takeIn_16 (ho).1 rfl ?_
  refine zs_getR fl_X1_102 dX1_takeIn_19 (sh_72 hN) rfl ?_
  refine zs_iload dX1_takeIn_22 4 rfl ?_
  refine zs_ialdG dX1_takeIn_24 (sh_79 hN) ?_
  refine zs_icmp_lt (tgt := 41) dX1_takeIn_25 (by decide) ?_ ?_
  · refine zs_iload_n dX1_takeIn_41 rfl 3 rfl ?_
    refine zs_iload dX1_takeIn_42 0 rfl ?_
    refine zs_icmp_gt (tgt := 67) dX1_takeIn_44 (by decide) ?_ ?_
    · refine zs_aload_n dX1_takeIn_67 rfl 1 rfl ?_
      refine zs_getR fl_X1_25 dX1_takeIn_68 (ho).1 rfl ?_
      refine zs_getI fl_X1_163 dX1_takeIn_71 (sh_2 hN) rfl ?_
      refine zs_iconst (v := (1 : Int32)) dX1_takeIn_74 ci_1 ?_
      refine zs_icmp_ne (tgt := 96) dX1_takeIn_75 (by decide) ?_ ?_
      · refine zs_aload_n dX1_takeIn_96 rfl 1 rfl ?_
        refine zs_getI fl_X1_108 dX1_takeIn_97 (ho).1 rfl ?_
        refine zs_bipush (v := (34 : Int32)) dX1_takeIn_100 cb_34 ?_
        refine zs_icmp_ge (tgt := 138) dX1_takeIn_102 (by decide) ?_ ?_
        · exact zs_vret dX1_takeIn_138 rfl rfl rfl
        · refine zs_aload_n dX1_takeIn_105 rfl 1 rfl ?_
          refine zs_getR fl_X1_18 dX1_takeIn_106 (ho).1 rfl ?_
          refine zs_aload_n dX1_takeIn_109 rfl 1 rfl ?_
          refine zs_getI fl_X1_108 dX1_takeIn_110 (ho).1 rfl ?_
          refine zs_lload_n dX1_takeIn_113 rfl 2 rfl ?_
          refine zs_lastG dX1_takeIn_114 (ho).2.2.2.1 (fun m2 => ?_)
          refine zs_aload_n dX1_takeIn_115 rfl 1 rfl ?_
          refine zs_getR fl_X1_22 dX1_takeIn_116 (ho).1 rfl ?_
          refine zs_aload_n dX1_takeIn_119 rfl 1 rfl ?_
          refine zs_getI fl_X1_108 dX1_takeIn_120 (ho).1 rfl ?_
          refine zs_iload_n dX1_takeIn_123 rfl 3 rfl ?_
          refine zs_iload dX1_takeIn_124 0 rfl ?_
          refine zs_isub dX1_takeIn_126 ?_
          refine zs_iastG dX1_takeIn_127 (ho).2.2.2.2 (fun m3 => ?_)
          refine zs_aload_n dX1_takeIn_128 rfl 1 rfl ?_
          refine zs_dup dX1_takeIn_129 rfl ?_
          refine zs_getI fl_X1_108 dX1_takeIn_130 (ho).1 rfl ?_
          refine zs_iconst (v := (1 : Int32)) dX1_takeIn_133 ci_1 ?_
          refine zs_iadd dX1_takeIn_134 ?_
          refine zs_putI fl_X1_108 dX1_takeIn_135 (ho).1 rfl ⟨rfl, rfl⟩ (fun m4 => ?_)
          exact zs_vret dX1_takeIn_138 rfl rfl rfl
      · refine zs_aload_n dX1_takeIn_78 rfl 1 rfl ?_
        refine zs_dup dX1_takeIn_79 rfl ?_
        refine zs_getJ fl_X1_140 dX1_takeIn_80 (ho).1 rfl ?_
        refine zs_lload_n dX1_takeIn_83 rfl 2 rfl ?_
        refine zs_aload_n dX1_takeIn_84 rfl 1 rfl ?_
        refine zs_getJ fl_X1_98 dX1_takeIn_85 (ho).1 rfl ?_
        refine zs_lmul dX1_takeIn_88 ?_
        refine zs_lsub dX1_takeIn_89 ?_
        refine zs_putJ fl_X1_140 dX1_takeIn_90 (ho).1 rfl ⟨rfl, rfl⟩ (fun m5 => ?_)
        refine zs_goto (tgt := 138) dX1_takeIn_93 (by decide) ?_
        exact zs_vret dX1_takeIn_138 rfl rfl rfl
    · refine zs_aload_n dX1_takeIn_47 rfl 1 rfl ?_
      refine zs_dup dX1_takeIn_48 rfl ?_
      refine zs_getJ fl_X1_140 dX1_takeIn_49 (ho).1 rfl ?_
      refine zs_lload_n dX1_takeIn_52 rfl 2 rfl ?_
      refine zs_aload_n dX1_takeIn_53 rfl 1 rfl ?_
      refine zs_iload_n dX1_takeIn_54 rfl 3 rfl ?_
      refine zs_cV_iR (rest := [.long p1, .long (m.2.1 o 8), .ref (zz_a G o)]) (k_X1_factorAt hN (ho) _ _) dX1_takeIn_55 lv_X1_160 ok_X1_factorAt (zz_rcv_o (ho).1 rfl) (Nat.le_of_ble_eq_true rfl) rfl rfl (Nat.le_of_ble_eq_true rfl) (fun r6 => ?_)
      refine zs_i2l dX1_takeIn_58 ?_
      refine zs_lmul dX1_takeIn_59 ?_
      refine zs_lsub dX1_takeIn_60 ?_
      refine zs_putJ fl_X1_140 dX1_takeIn_61 (ho).1 rfl ⟨rfl, rfl⟩ (fun m7 => ?_)
      refine zs_goto (tgt := 138) dX1_takeIn_64 (by decide) ?_
      exact zs_vret dX1_takeIn_138 rfl rfl rfl
  · refine zs_aload_n dX1_takeIn_28 rfl 1 rfl ?_
    refine zs_dup dX1_takeIn_29 rfl ?_
    refine zs_getJ fl_X1_137 dX1_takeIn_30 (ho).1 rfl ?_
    refine zs_lload_n dX1_takeIn_33 rfl 2 rfl ?_
    refine zs_ladd dX1_takeIn_34 ?_
    refine zs_putJ fl_X1_137 dX1_takeIn_35 (ho).1 rfl ⟨rfl, rfl⟩ (fun m8 => ?_)
    refine zs_goto (tgt := 138) dX1_takeIn_38 (by decide) ?_
    exact zs_vret dX1_takeIn_138 rfl rfl rfl
/-! X1_askLoan: PillarDesk$Curve.askLoan(II)V -/
theorem dX1_askLoan_0 : decode cX1_askLoan 0 = .ok (.aload_n 0, 1) := by decide +kernel
theorem dX1_askLoan_1 : decode cX1_askLoan 1 = .ok (.getfield 29, 3) := by decide +kernel
theorem dX1_askLoan_4 : decode cX1_askLoan 4 = .ok (.getfield 132, 3) := by decide +kernel
theorem dX1_askLoan_7 : decode cX1_askLoan 7 = .ok (.iload_n 1, 1) := by decide +kernel
theorem dX1_askLoan_8 : decode cX1_askLoan 8 = .ok (.iaload, 1) := by decide +kernel
theorem dX1_askLoan_9 : decode cX1_askLoan 9 = .ok (.istore_n 3, 1) := by decide +kernel
theorem dX1_askLoan_10 : decode cX1_askLoan 10 = .ok (.aload_n 0, 1) := by decide +kernel
theorem dX1_askLoan_11 : decode cX1_askLoan 11 = .ok (.ldc2_w 135, 3) := by decide +kernel
theorem dX1_askLoan_14 : decode cX1_askLoan 14 = .ok (.aload_n 0, 1) := by decide +kernel
theorem dX1_askLoan_15 : decode cX1_askLoan 15 = .ok (.getfield 9, 3) := by decide +kernel
theorem dX1_askLoan_18 : decode cX1_askLoan 18 = .ok (.iload_n 1, 1) := by decide +kernel
theorem dX1_askLoan_19 : decode cX1_askLoan 19 = .ok (.iaload, 1) := by decide +kernel
theorem dX1_askLoan_20 : decode cX1_askLoan 20 = .ok (.i2l, 1) := by decide +kernel
theorem dX1_askLoan_21 : decode cX1_askLoan 21 = .ok (.aload_n 0, 1) := by decide +kernel
theorem dX1_askLoan_22 : decode cX1_askLoan 22 = .ok (.getfield 29, 3) := by decide +kernel
theorem dX1_askLoan_25 : decode cX1_askLoan 25 = .ok (.iload_n 1, 1) := by decide +kernel
theorem dX1_askLoan_26 : decode cX1_askLoan 26 = .ok (.invokevirtual 71, 3) := by decide +kernel
theorem dX1_askLoan_29 : decode cX1_askLoan 29 = .ok (.i2l, 1) := by decide +kernel
theorem dX1_askLoan_30 : decode cX1_askLoan 30 = .ok (.lmul, 1) := by decide +kernel
theorem dX1_askLoan_31 : decode cX1_askLoan 31 = .ok (.ladd, 1) := by decide +kernel
theorem dX1_askLoan_32 : decode cX1_askLoan 32 = .ok (.putfield 137, 3) := by decide +kernel
theorem dX1_askLoan_35 : decode cX1_askLoan 35 = .ok (.aload_n 0, 1) := by decide +kernel
theorem dX1_askLoan_36 : decode cX1_askLoan 36 = .ok (.lconst 0, 1) := by decide +kernel
theorem dX1_askLoan_37 : decode cX1_askLoan 37 = .ok (.putfield 140, 3) := by decide +kernel
theorem dX1_askLoan_40 : decode cX1_askLoan 40 = .ok (.aload_n 0, 1) := by decide +kernel
theorem dX1_askLoan_41 : decode cX1_askLoan 41 = .ok (.ldc2_w 143, 3) := by decide +kernel
theorem dX1_askLoan_44 : decode cX1_askLoan 44 = .ok (.iload_n 3, 1) := by decide +kernel
theorem dX1_askLoan_45 : decode cX1_askLoan 45 = .ok (.iload_n 2, 1) := by decide +kernel
theorem dX1_askLoan_46 : decode cX1_askLoan 46 = .ok (.invokevirtual 145, 3) := by decide +kernel
theorem dX1_askLoan_49 : decode cX1_askLoan 49 = .ok (.return_, 1) := by decide +kernel
def f_X1_askLoan (o : Nat) (p1 : Int32) (p2 : Int32) (m : zz_Mem) : Option zz_Mem :=
  zz_ix p1 8 <|
  zz_letI (m.1 73 p1.toNatClampNeg) fun x1 =>
  zz_ix p1 8 <|
  zz_bndR (f_X8_daysOf m p1) fun r2 =>
  zz_letM (zz_setJ m o 7 ((3600000 : Int64) + (((m.1 (o + 1) p1.toNatClampNeg).toInt64) * r2.toInt64))) fun m3 =>
  zz_letM (zz_setJ m3 o 8 (0 : Int64)) fun m4 =>
  zz_bndR (f_X1_takeIn o (-3600000 : Int64) x1 p2 m4) fun m5 =>
  some m5
theorem k_X1_askLoan {l : Launch} {G : zz_G} (hN : 107 ≤ zz_N G) {o : Nat} (ho : zz_isCurve G o) : ∀ (p1 : Int32) (p2 : Int32) (m : zz_Mem), zz_Con zz_sh l G mX1_askLoan 3 [.ref (zz_a G o), .int p1, .int p2] zz_vV zz_mV (f_X1_askLoan o p1 p2 m) m := by
  intro p1 p2 m
  refine zz_con (lv := [(0, .ref (zz_a G o)), (1, .int p1), (2, .int p2)]) (by decide +kernel) (Nat.le_of_ble_eq_true rfl) rfl ?_
  unfold f_X1_askLoan
  refine zs_aload_n dX1_askLoan_0 rfl 0 rfl ?_
  refine zs_getR fl_X1_29 dX1_askLoan_1 (ho).1 rfl ?_
  refine zs_getR fl_X1_132 dX1_askLoan_4 (sh_72 hN) rfl ?_
  refine zs_iload_n dX1_askLoan_7 rfl 1 rfl ?_
  refine zs_ialdG dX1_askLoan_8 (sh_73 hN) ?_
  refine zs_letI (fun x1 => ?_)
  refine zs_istore_n [(3, .int x1), (0, .ref (zz_a G o)), (1, .int p1), (2, .int p2)] dX1_askLoan_9 rfl (Nat.le_of_ble_eq_true rfl) rfl ?_
  refine zs_aload_n dX1_askLoan_10 rfl 1 rfl ?_
  refine zs_ldc2 (v := (3600000 : Int64)) dX1_askLoan_11 kc_X1_135 ?_
  refine zs_aload_n dX1_askLoan_14 rfl 1 rfl ?_
  refine zs_getR fl_X1_9 dX1_askLoan_15 (ho).1 rfl ?_
  refine zs_iload_n dX1_askLoan_18 rfl 2 rfl ?_
  refine zs_ialdG dX1_askLoan_19 (ho).2.1 ?_
  refine zs_i2l dX1_askLoan_20 ?_
  refine zs_aload_n dX1_askLoan_21 rfl 1 rfl ?_
  refine zs_getR fl_X1_29 dX1_askLoan_22 (ho).1 rfl ?_
  refine zs_iload_n dX1_askLoan_25 rfl 2 rfl ?_
  refine zs_cV_iR (rest := [.long ((m.1 (o + 1) p1.toNatClampNeg).toInt64), .long (3600000 : Int64), .ref (zz_a G o)]) (k_X8_daysOf hN _ _) dX1_askLoan_26 lv_X1_71 ok_X8_daysOf (zz_rcv_o (sh_72 hN) rfl) (Nat.le_of_ble_eq_true rfl) rfl rfl (Nat.le_of_ble_eq_true rfl) (fun r2 => ?_)
  refine zs_i2l dX1_askLoan_29 ?_
  refine zs_lmul dX1_askLoan_30 ?_
  refine zs_ladd dX1_askLoan_31 ?_
  refine zs_putJ fl_X1_137 dX1_askLoan_32 (ho).1 rfl ⟨rfl, rfl⟩ (fun m3 => ?_)
  refine zs_aload_n dX1_askLoan_35 rfl 1 rfl ?_
  refine zs_lconst (v := (0 : Int64)) dX1_askLoan_36 rfl ?_
  refine zs_putJ fl_X1_140 dX1_askLoan_37 (ho).1 rfl ⟨rfl, rfl⟩ (fun m4 => ?_)
  refine zs_aload_n dX1_askLoan_40 rfl 1 rfl ?_
  refine zs_ldc2 (v := (-3600000 : Int64)) dX1_askLoan_41 kc_X1_143 ?_
  refine zs_iload_n dX1_askLoan_44 rfl 0 rfl ?_
  refine zs_iload_n dX1_askLoan_45 rfl 3 rfl ?_
  refine zs_cV_vW (rest := []) (k_X1_takeIn hN (ho) _ _ _ _) dX1_askLoan_46 lv_X1_145 ok_X1_takeIn (zz_rcv_o (ho).1 rfl) (Nat.le_of_ble_eq_true rfl) rfl rfl (Nat.le_of_ble_eq_true rfl) (fun m5 => ?_)
  exact zs_vret dX1_askLoan_49 rfl rfl rfl
/-! X1_askSwap: PillarDesk$Curve.askSwap(II)V -/
theorem dX1_askSwap_0 : decode cX1_askSwap 0 = .ok (.aload_n 0, 1) := by decide +kernel
theorem dX1_askSwap_1 : decode cX1_askSwap 1 = .ok (.ldc2_w 135, 3) := by decide +kernel
theorem dX1_askSwap_4 : decode cX1_askSwap 4 = .ok (.putfield 137, 3) := by decide +kernel
theorem dX1_askSwap_7 : decode cX1_askSwap 7 = .ok (.aload_n 0, 1) := by decide +kernel
theorem dX1_askSwap_8 : decode cX1_askSwap 8 = .ok (.ldc2_w 149, 3) := by decide +kernel
theorem dX1_askSwap_11 : decode cX1_askSwap 11 = .ok (.putfield 140, 3) := by decide +kernel
theorem dX1_askSwap_14 : decode cX1_askSwap 14 = .ok (.iconst 0, 1) := by decide +kernel
theorem dX1_askSwap_15 : decode cX1_askSwap 15 = .ok (.istore_n 3, 1) := by decide +kernel
theorem dX1_askSwap_16 : decode cX1_askSwap 16 = .ok (.iload_n 3, 1) := by decide +kernel
theorem dX1_askSwap_17 : decode cX1_askSwap 17 = .ok (.aload_n 0, 1) := by decide +kernel
theorem dX1_askSwap_18 : decode cX1_askSwap 18 = .ok (.getfield 29, 3) := by decide +kernel
theorem dX1_askSwap_21 : decode cX1_askSwap 21 = .ok (.getfield 151, 3) := by decide +kernel
theorem dX1_askSwap_24 : decode cX1_askSwap 24 = .ok (.iload_n 1, 1) := by decide +kernel
theorem dX1_askSwap_25 : decode cX1_askSwap 25 = .ok (.iaload, 1) := by decide +kernel
theorem dX1_askSwap_26 : decode cX1_askSwap 26 = .ok (.if_icmp .ge 41, 3) := by decide +kernel
theorem dX1_askSwap_29 : decode cX1_askSwap 29 = .ok (.aload_n 0, 1) := by decide +kernel
theorem dX1_askSwap_30 : decode cX1_askSwap 30 = .ok (.aload_n 0, 1) := by decide +kernel
theorem dX1_askSwap_31 : decode cX1_askSwap 31 = .ok (.getfield 9, 3) := by decide +kernel
theorem dX1_askSwap_34 : decode cX1_askSwap 34 = .ok (.iload_n 1, 1) := by decide +kernel
theorem dX1_askSwap_35 : decode cX1_askSwap 35 = .ok (.iaload, 1) := by decide +kernel
theorem dX1_askSwap_36 : decode cX1_askSwap 36 = .ok (.i2l, 1) := by decide +kernel
theorem dX1_askSwap_37 : decode cX1_askSwap 37 = .ok (.aload_n 0, 1) := by decide +kernel
theorem dX1_askSwap_38 : decode cX1_askSwap 38 = .ok (.getfield 29, 3) := by decide +kernel
theorem dX1_askSwap_41 : decode cX1_askSwap 41 = .ok (.iload_n 1, 1) := by decide +kernel
theorem dX1_askSwap_42 : decode cX1_askSwap 42 = .ok (.iload_n 3, 1) := by decide +kernel
theorem dX1_askSwap_43 : decode cX1_askSwap 43 = .ok (.invokevirtual 154, 3) := by decide +kernel
theorem dX1_askSwap_46 : decode cX1_askSwap 46 = .ok (.i2l, 1) := by decide +kernel
theorem dX1_askSwap_47 : decode cX1_askSwap 47 = .ok (.lmul, 1) := by decide +kernel
theorem dX1_askSwap_48 : decode cX1_askSwap 48 = .ok (.aload_n 0, 1) := by decide +kernel
theorem dX1_askSwap_49 : decode cX1_askSwap 49 = .ok (.getfield 29, 3) := by decide +kernel
theorem dX1_askSwap_52 : decode cX1_askSwap 52 = .ok (.iload_n 1, 1) := by decide +kernel
theorem dX1_askSwap_53 : decode cX1_askSwap 53 = .ok (.iload_n 3, 1) := by decide +kernel
theorem dX1_askSwap_54 : decode cX1_askSwap 54 = .ok (.invokevirtual 157, 3) := by decide +kernel
theorem dX1_askSwap_57 : decode cX1_askSwap 57 = .ok (.iload_n 2, 1) := by decide +kernel
theorem dX1_askSwap_58 : decode cX1_askSwap 58 = .ok (.invokevirtual 145, 3) := by decide +kernel
theorem dX1_askSwap_61 : decode cX1_askSwap 61 = .ok (.iinc 3 1, 3) := by decide +kernel
theorem dX1_askSwap_64 : decode cX1_askSwap 64 = .ok (.goto (-48), 3) := by decide +kernel
theorem dX1_askSwap_67 : decode cX1_askSwap 67 = .ok (.return_, 1) := by decide +kernel
def f_X1_askSwap_16 (o : Nat)  : Nat → Int32 → Int32 → Int32 → zz_Mem → Option zz_Mem
  | 0, _, _, _, _ => none
  | n + 1, v1, v2, v3, m =>
  zz_ix v1 8 <|
  if (m.1 75 v1.toNatClampNeg) ≤ v3 then (
  some m)
  else (
  zz_ix v1 8 <|
  zz_bndR (f_X8_periodDays m v1 v3) fun r1 =>
  zz_bndR (f_X8_periodEnd m v1 v3) fun r2 =>
  zz_bndR (f_X1_takeIn o (((m.1 (o + 1) v1.toNatClampNeg).toInt64) * r1.toInt64) r2 v2 m) fun m3 =>
  zz_letI (v3 + (1 : Int32)) fun x4 =>
  f_X1_askSwap_16 o n v1 v2 x4 m3)
theorem t_X1_askSwap_16 {l : Launch} {G : zz_G} (hN : 107 ≤ zz_N G) {o : Nat} (ho : zz_isCurve G o)  : ∀ (n : Nat) (v1 : Int32) (v2 : Int32) (v3 : Int32) (m : zz_Mem), zz_Sim zz_sh l G mX1_askSwap 3 zz_vV zz_mV (f_X1_askSwap_16 o n v1 v2 v3 m) 16 [(0, .ref (zz_a G o)), (1, .int v1), (2, .int v2), (3, .int v3)] [] m := by
  intro n
  induction n with
  | zero => intro _ _ _ _; exact zs_none
  | succ n ih =>
    intro v1 v2 v3 m
    rw [f_X1_askSwap_16]
    refine zs_iload_n dX1_askSwap_16 rfl 3 rfl ?_
    refine zs_aload_n dX1_askSwap_17 rfl 0 rfl ?_
    refine zs_getR fl_X1_29 dX1_askSwap_18 (ho).1 rfl ?_
    refine zs_getR fl_X1_151 dX1_askSwap_21 (sh_72 hN) rfl ?_
    refine zs_iload_n dX1_askSwap_24 rfl 1 rfl ?_
    refine zs_ialdG dX1_askSwap_25 (sh_75 hN) ?_
    refine zs_icmp_ge (tgt := 67) dX1_askSwap_26 (by decide) ?_ ?_
    · exact zs_vret dX1_askSwap_67 rfl rfl rfl
    · refine zs_aload_n dX1_askSwap_29 rfl 0 rfl ?_
      refine zs_aload_n dX1_askSwap_30 rfl 0 rfl ?_
      refine zs_getR fl_X1_9 dX1_askSwap_31 (ho).1 rfl ?_
      refine zs_iload_n dX1_askSwap_34 rfl 1 rfl ?_
      refine zs_ialdG dX1_askSwap_35 (ho).2.1 ?_
      refine zs_i2l dX1_askSwap_36 ?_
      refine zs_aload_n dX1_askSwap_37 rfl 0 rfl ?_
      refine zs_getR fl_X1_29 dX1_askSwap_38 (ho).1 rfl ?_
      refine zs_iload_n dX1_askSwap_41 rfl 1 rfl ?_
      refine zs_iload_n dX1_askSwap_42 rfl 3 rfl ?_
      refine zs_cV_iR (rest := [.long ((m.1 (o + 1) v1.toNatClampNeg).toInt64), .ref (zz_a G o)]) (k_X8_periodDays hN _ _ _) dX1_askSwap_43 lv_X1_154 ok_X8_periodDays (zz_rcv_o (sh_72 hN) rfl) (Nat.le_of_ble_eq_true rfl) rfl rfl (Nat.le_of_ble_eq_true rfl) (fun r1 => ?_)
      refine zs_i2l dX1_askSwap_46 ?_
      refine zs_lmul dX1_askSwap_47 ?_
      refine zs_aload_n dX1_askSwap_48 rfl 0 rfl ?_
      refine zs_getR fl_X1_29 dX1_askSwap_49 (ho).1 rfl ?_
      refine zs_iload_n dX1_askSwap_52 rfl 1 rfl ?_
      refine zs_iload_n dX1_askSwap_53 rfl 3 rfl ?_
      refine zs_cV_iR (rest := [.long (((m.1 (o + 1) v1.toNatClampNeg).toInt64) * r1.toInt64), .ref (zz_a G o)]) (k_X8_periodEnd hN _ _ _) dX1_askSwap_54 lv_X1_157 ok_X8_periodEnd (zz_rcv_o (sh_72 hN) rfl) (Nat.le_of_ble_eq_true rfl) rfl rfl (Nat.le_of_ble_eq_true rfl) (fun r2 => ?_)
      refine zs_iload_n dX1_askSwap_57 rfl 2 rfl ?_
      refine zs_cV_vW (rest := []) (k_X1_takeIn hN (ho) _ _ _ _) dX1_askSwap_58 lv_X1_145 ok_X1_takeIn (zz_rcv_o (ho).1 rfl) (Nat.le_of_ble_eq_true rfl) rfl rfl (Nat.le_of_ble_eq_true rfl) (fun m3 => ?_)
      refine zs_iinc (fun y => [(3, .int y), (0, .ref (zz_a G o)), (1, .int v1), (2, .int v2)]) dX1_askSwap_61 3 rfl ci_1 (Nat.le_of_ble_eq_true rfl) (fun _ => rfl) (fun x4 => ?_)
      refine zs_goto (tgt := 16) dX1_askSwap_64 (by decide) ?_
      refine zs_sub [1, 2, 3, 0] rfl ?_
      exact ih _ _ _ _
def f_X1_askSwap (o : Nat) (p1 : Int32) (p2 : Int32) (m : zz_Mem) : Option zz_Mem :=
  zz_letM (zz_setJ m o 7 (3600000 : Int64)) fun m1 =>
  zz_letM (zz_setJ m1 o 8 (3600000003599999 : Int64)) fun m2 =>
  f_X1_askSwap_16 o zz_fuel p1 p2 (0 : Int32) m2
theorem k_X1_askSwap {l : Launch} {G : zz_G} (hN : 107 ≤ zz_N G) {o : Nat} (ho : zz_isCurve G o) : ∀ (p1 : Int32) (p2 : Int32) (m : zz_Mem), zz_Con zz_sh l G mX1_askSwap 3 [.ref (zz_a G o), .int p1, .int p2] zz_vV zz_mV (f_X1_askSwap o p1 p2 m) m := by
  intro p1 p2 m
  refine zz_con (lv := [(0, .ref (zz_a G o)), (1, .int p1), (2, .int p2)]) (by decide +kernel) (Nat.le_of_ble_eq_true rfl) rfl ?_
  unfold f_X1_askSwap
  refine zs_aload_n dX1_askSwap_0 rfl 0 rfl ?_
  refine zs_ldc2 (v := (3600000 : Int64)) dX1_askSwap_1 kc_X1_135 ?_
  refine zs_putJ fl_X1_137 dX1_askSwap_4 (ho).1 rfl ⟨rfl, rfl⟩ (fun m1 => ?_)
  refine zs_aload_n dX1_askSwap_7 rfl 0 rfl ?_
  refine zs_ldc2 (v := (3600000003599999 : Int64)) dX1_askSwap_8 kc_X1_149 ?_
  refine zs_putJ fl_X1_140 dX1_askSwap_11 (ho).1 rfl ⟨rfl, rfl⟩ (fun m2 => ?_)
  refine zs_iconst (v := (0 : Int32)) dX1_askSwap_14 ci_0 ?_
  refine zs_istore_n [(3, .int (0 : Int32)), (0, .ref (zz_a G o)), (1, .int p1), (2, .int p2)] dX1_askSwap_15 rfl (Nat.le_of_ble_eq_true rfl) rfl ?_
  refine zs_sub [1, 2, 3, 0] rfl ?_
  exact t_X1_askSwap_16 hN ho zz_fuel _ _ _ _
/-! X1_inFactorBounds: PillarDesk$Curve.inFactorBounds(J)J -/
theorem dX1_inFactorBounds_0 : decode cX1_inFactorBounds 0 = .ok (.lconst 0, 1) := by decide +kernel
theorem dX1_inFactorBounds_1 : decode cX1_inFactorBounds 1 = .ok (.ldc2_w 173, 3) := by decide +kernel
theorem dX1_inFactorBounds_4 : decode cX1_inFactorBounds 4 = .ok (.lload_n 0, 1) := by decide +kernel
theorem dX1_inFactorBounds_5 : decode cX1_inFactorBounds 5 = .ok (.invokestatic 175, 3) := by decide +kernel
theorem dX1_inFactorBounds_8 : decode cX1_inFactorBounds 8 = .ok (.invokestatic 178, 3) := by decide +kernel
theorem dX1_inFactorBounds_11 : decode cX1_inFactorBounds 11 = .ok (.lreturn, 1) := by decide +kernel
def f_X1_inFactorBounds  (p0 : Int64) : Option Int64 :=
  zz_bndR (f_J9_min_f86c9 (1000000000 : Int64) p0) fun r1 =>
  zz_bndR (f_J9_max_f86c9 (0 : Int64) r1) fun r2 =>
  some r2
theorem k_X1_inFactorBounds {l : Launch} {G : zz_G} (hN : 107 ≤ zz_N G) : ∀ (p0 : Int64) (m : zz_Mem), zz_Con zz_sh l G mX1_inFactorBounds 1 [.long p0] zz_vJr (zz_mC m) (f_X1_inFactorBounds p0) m := by
  intro p0 m
  refine zz_con (lv := [(0, .long p0)]) (by decide +kernel) (Nat.le_of_ble_eq_true rfl) rfl ?_
  unfold f_X1_inFactorBounds
  refine zs_lconst (v := (0 : Int64)) dX1_inFactorBounds_0 rfl ?_
  refine zs_ldc2 (v := (1000000000 : Int64)) dX1_inFactorBounds_1 kc_X1_173 ?_
  refine zs_lload_n dX1_inFactorBounds_4 rfl 0 rfl ?_
  refine zs_cS_jR (rest := [.long (0 : Int64)]) (k_J9_min_f86c9 hN _ _ _) dX1_inFactorBounds_5 ls_X1_175 ok_J9_min_f86c9 (Nat.le_of_ble_eq_true rfl) rfl rfl (Nat.le_of_ble_eq_true rfl) (fun r1 => ?_)
  refine zs_cS_jR (rest := []) (k_J9_max_f86c9 hN _ _ _) dX1_inFactorBounds_8 ls_X1_178 ok_J9_max_f86c9 (Nat.le_of_ble_eq_true rfl) rfl rfl (Nat.le_of_ble_eq_true rfl) (fun r2 => ?_)
  exact zs_lret dX1_inFactorBounds_11 rfl rfl rfl
/-! X1_greatestAtOnce: PillarDesk$Curve.greatestAtOnce()J -/
theorem dX1_greatestAtOnce_0 : decode cX1_greatestAtOnce 0 = .ok (.aload_n 0, 1) := by decide +kernel
theorem dX1_greatestAtOnce_1 : decode cX1_greatestAtOnce 1 = .ok (.getfield 137, 3) := by decide +kernel
theorem dX1_greatestAtOnce_4 : decode cX1_greatestAtOnce 4 = .ok (.lconst 0, 1) := by decide +kernel
theorem dX1_greatestAtOnce_5 : decode cX1_greatestAtOnce 5 = .ok (.lcmp, 1) := by decide +kernel
theorem dX1_greatestAtOnce_6 : decode cX1_greatestAtOnce 6 = .ok (.ifCond .le 20, 3) := by decide +kernel
theorem dX1_greatestAtOnce_9 : decode cX1_greatestAtOnce 9 = .ok (.aload_n 0, 1) := by decide +kernel
theorem dX1_greatestAtOnce_10 : decode cX1_greatestAtOnce 10 = .ok (.getfield 140, 3) := by decide +kernel
theorem dX1_greatestAtOnce_13 : decode cX1_greatestAtOnce 13 = .ok (.aload_n 0, 1) := by decide +kernel
theorem dX1_greatestAtOnce_14 : decode cX1_greatestAtOnce 14 = .ok (.getfield 137, 3) := by decide +kernel
theorem dX1_greatestAtOnce_17 : decode cX1_greatestAtOnce 17 = .ok (.invokestatic 166, 3) := by decide +kernel
theorem dX1_greatestAtOnce_20 : decode cX1_greatestAtOnce 20 = .ok (.invokestatic 170, 3) := by decide +kernel
theorem dX1_greatestAtOnce_23 : decode cX1_greatestAtOnce 23 = .ok (.goto 4, 3) := by decide +kernel
theorem dX1_greatestAtOnce_26 : decode cX1_greatestAtOnce 26 = .ok (.lconst 0, 1) := by decide +kernel
theorem dX1_greatestAtOnce_27 : decode cX1_greatestAtOnce 27 = .ok (.lreturn, 1) := by decide +kernel
def f_X1_greatestAtOnce (o : Nat) (m : zz_Mem)  : Option Int64 :=
  if (m.2.1 o 7) ≤ (0 : Int64) then (
  some (0 : Int64))
  else (
  zz_bndR (f_J9_floorDiv_f86c9 (m.2.1 o 8) (m.2.1 o 7)) fun r1 =>
  zz_bndR (f_X1_inFactorBounds r1) fun r2 =>
  some r2)
theorem k_X1_greatestAtOnce {l : Launch} {G : zz_G} (hN : 107 ≤ zz_N G) {o : Nat} (ho : zz_isCurve G o) : ∀ (m : zz_Mem), zz_Con zz_sh l G mX1_greatestAtOnce 2 [.ref (zz_a G o)] zz_vJr (zz_mC m) (f_X1_greatestAtOnce o m) m := by
  intro m
  refine zz_con (lv := [(0, .ref (zz_a G o))]) (by decide +kernel) (Nat.le_of_ble_eq_true rfl) rfl ?_
  unfold f_X1_greatestAtOnce
  refine zs_aload_n dX1_greatestAtOnce_0 rfl 0 rfl ?_
  refine zs_getJ fl_X1_137 dX1_greatestAtOnce_1 (ho).1 rfl ?_
  refine zs_lconst (v := (0 : Int64)) dX1_greatestAtOnce_4 rfl ?_
  refine zs_lcmp_le (tgt := 26) dX1_greatestAtOnce_5 dX1_greatestAtOnce_6 (by decide) ?_ ?_
  · refine zs_lconst (v := (0 : Int64)) dX1_greatestAtOnce_26 rfl ?_
    exact zs_lret dX1_greatestAtOnce_27 rfl rfl rfl
  · refine zs_aload_n dX1_greatestAtOnce_9 rfl 0 rfl ?_
    refine zs_getJ fl_X1_140 dX1_greatestAtOnce_10 (ho).1 rfl ?_
    refine zs_aload_n dX1_greatestAtOnce_13 rfl 0 rfl ?_
    refine zs_getJ fl_X1_137 dX1_greatestAtOnce_14 (ho).1 rfl ?_
    refine zs_cS_jR (rest := []) (k_J9_floorDiv_f86c9 hN _ _ _) dX1_greatestAtOnce_17 ls_X1_166 ok_J9_floorDiv_f86c9 (Nat.le_of_ble_eq_true rfl) rfl rfl (Nat.le_of_ble_eq_true rfl) (fun r1 => ?_)
    refine zs_cS_jR (rest := []) (k_X1_inFactorBounds hN _ _) dX1_greatestAtOnce_20 ls_X1_170 ok_X1_inFactorBounds (Nat.le_of_ble_eq_true rfl) rfl rfl (Nat.le_of_ble_eq_true rfl) (fun r2 => ?_)
    refine zs_goto (tgt := 27) dX1_greatestAtOnce_23 (by decide) ?_
    exact zs_lret dX1_greatestAtOnce_27 rfl rfl rfl
/-! X1_guess: PillarDesk$Curve.guess()J -/
theorem dX1_guess_0 : decode cX1_guess 0 = .ok (.aload_n 0, 1) := by decide +kernel
theorem dX1_guess_1 : decode cX1_guess 1 = .ok (.getfield 140, 3) := by decide +kernel
theorem dX1_guess_4 : decode cX1_guess 4 = .ok (.aload_n 0, 1) := by decide +kernel
theorem dX1_guess_5 : decode cX1_guess 5 = .ok (.getfield 105, 3) := by decide +kernel
theorem dX1_guess_8 : decode cX1_guess 8 = .ok (.i2l, 1) := by decide +kernel
theorem dX1_guess_9 : decode cX1_guess 9 = .ok (.lmul, 1) := by decide +kernel
theorem dX1_guess_10 : decode cX1_guess 10 = .ok (.lstore_n 1, 1) := by decide +kernel
theorem dX1_guess_11 : decode cX1_guess 11 = .ok (.aload_n 0, 1) := by decide +kernel
theorem dX1_guess_12 : decode cX1_guess 12 = .ok (.getfield 137, 3) := by decide +kernel
theorem dX1_guess_15 : decode cX1_guess 15 = .ok (.aload_n 0, 1) := by decide +kernel
theorem dX1_guess_16 : decode cX1_guess 16 = .ok (.getfield 105, 3) := by decide +kernel
theorem dX1_guess_19 : decode cX1_guess 19 = .ok (.i2l, 1) := by decide +kernel
theorem dX1_guess_20 : decode cX1_guess 20 = .ok (.lmul, 1) := by decide +kernel
theorem dX1_guess_21 : decode cX1_guess 21 = .ok (.lstore_n 3, 1) := by decide +kernel
theorem dX1_guess_22 : decode cX1_guess 22 = .ok (.iconst 0, 1) := by decide +kernel
theorem dX1_guess_23 : decode cX1_guess 23 = .ok (.istore 5, 2) := by decide +kernel
theorem dX1_guess_25 : decode cX1_guess 25 = .ok (.iload 5, 2) := by decide +kernel
theorem dX1_guess_27 : decode cX1_guess 27 = .ok (.aload_n 0, 1) := by decide +kernel
theorem dX1_guess_28 : decode cX1_guess 28 = .ok (.getfield 108, 3) := by decide +kernel
theorem dX1_guess_31 : decode cX1_guess 31 = .ok (.if_icmp .ge 57, 3) := by decide +kernel
theorem dX1_guess_34 : decode cX1_guess 34 = .ok (.lload_n 1, 1) := by decide +kernel
theorem dX1_guess_35 : decode cX1_guess 35 = .ok (.aload_n 0, 1) := by decide +kernel
theorem dX1_guess_36 : decode cX1_guess 36 = .ok (.getfield 18, 3) := by decide +kernel
theorem dX1_guess_39 : decode cX1_guess 39 = .ok (.iload 5, 2) := by decide +kernel
theorem dX1_guess_41 : decode cX1_guess 41 = .ok (.laload, 1) := by decide +kernel
theorem dX1_guess_42 : decode cX1_guess 42 = .ok (.aload_n 0, 1) := by decide +kernel
theorem dX1_guess_43 : decode cX1_guess 43 = .ok (.getfield 98, 3) := by decide +kernel
theorem dX1_guess_46 : decode cX1_guess 46 = .ok (.lmul, 1) := by decide +kernel
theorem dX1_guess_47 : decode cX1_guess 47 = .ok (.aload_n 0, 1) := by decide +kernel
theorem dX1_guess_48 : decode cX1_guess 48 = .ok (.getfield 105, 3) := by decide +kernel
theorem dX1_guess_51 : decode cX1_guess 51 = .ok (.aload_n 0, 1) := by decide +kernel
theorem dX1_guess_52 : decode cX1_guess 52 = .ok (.getfield 22, 3) := by decide +kernel
theorem dX1_guess_55 : decode cX1_guess 55 = .ok (.iload 5, 2) := by decide +kernel
theorem dX1_guess_57 : decode cX1_guess 57 = .ok (.iaload, 1) := by decide +kernel
theorem dX1_guess_58 : decode cX1_guess 58 = .ok (.isub, 1) := by decide +kernel
theorem dX1_guess_59 : decode cX1_guess 59 = .ok (.i2l, 1) := by decide +kernel
theorem dX1_guess_60 : decode cX1_guess 60 = .ok (.lmul, 1) := by decide +kernel
theorem dX1_guess_61 : decode cX1_guess 61 = .ok (.lsub, 1) := by decide +kernel
theorem dX1_guess_62 : decode cX1_guess 62 = .ok (.lstore_n 1, 1) := by decide +kernel
theorem dX1_guess_63 : decode cX1_guess 63 = .ok (.lload_n 3, 1) := by decide +kernel
theorem dX1_guess_64 : decode cX1_guess 64 = .ok (.aload_n 0, 1) := by decide +kernel
theorem dX1_guess_65 : decode cX1_guess 65 = .ok (.getfield 18, 3) := by decide +kernel
theorem dX1_guess_68 : decode cX1_guess 68 = .ok (.iload 5, 2) := by decide +kernel
theorem dX1_guess_70 : decode cX1_guess 70 = .ok (.laload, 1) := by decide +kernel
theorem dX1_guess_71 : decode cX1_guess 71 = .ok (.aload_n 0, 1) := by decide +kernel
theorem dX1_guess_72 : decode cX1_guess 72 = .ok (.getfield 22, 3) := by decide +kernel
theorem dX1_guess_75 : decode cX1_guess 75 = .ok (.iload 5, 2) := by decide +kernel
theorem dX1_guess_77 : decode cX1_guess 77 = .ok (.iaload, 1) := by decide +kernel
theorem dX1_guess_78 : decode cX1_guess 78 = .ok (.i2l, 1) := by decide +kernel
theorem dX1_guess_79 : decode cX1_guess 79 = .ok (.lmul, 1) := by decide +kernel
theorem dX1_guess_80 : decode cX1_guess 80 = .ok (.ladd, 1) := by decide +kernel
theorem dX1_guess_81 : decode cX1_guess 81 = .ok (.lstore_n 3, 1) := by decide +kernel
theorem dX1_guess_82 : decode cX1_guess 82 = .ok (.iinc 5 1, 3) := by decide +kernel
theorem dX1_guess_85 : decode cX1_guess 85 = .ok (.goto (-60), 3) := by decide +kernel
theorem dX1_guess_88 : decode cX1_guess 88 = .ok (.lload_n 3, 1) := by decide +kernel
theorem dX1_guess_89 : decode cX1_guess 89 = .ok (.lconst 0, 1) := by decide +kernel
theorem dX1_guess_90 : decode cX1_guess 90 = .ok (.lcmp, 1) := by decide +kernel
theorem dX1_guess_91 : decode cX1_guess 91 = .ok (.ifCond .le 14, 3) := by decide +kernel
theorem dX1_guess_94 : decode cX1_guess 94 = .ok (.lload_n 1, 1) := by decide +kernel
theorem dX1_guess_95 : decode cX1_guess 95 = .ok (.lload_n 3, 1) := by decide +kernel
theorem dX1_guess_96 : decode cX1_guess 96 = .ok (.invokestatic 166, 3) := by decide +kernel
theorem dX1_guess_99 : decode cX1_guess 99 = .ok (.invokestatic 170, 3) := by decide +kernel
theorem dX1_guess_102 : decode cX1_guess 102 = .ok (.goto 4, 3) := by decide +kernel
theorem dX1_guess_105 : decode cX1_guess 105 = .ok (.lconst 0, 1) := by decide +kernel
theorem dX1_guess_106 : decode cX1_guess 106 = .ok (.lreturn, 1) := by decide +kernel
def f_X1_guess_88 (o : Nat) (m : zz_Mem)  (v1 : Int64) (v3 : Int64) : Option Int64 :=
  if v3 ≤ (0 : Int64) then (
  some (0 : Int64))
  else (
  zz_bndR (f_J9_floorDiv_f86c9 v1 v3) fun r1 =>
  zz_bndR (f_X1_inFactorBounds r1) fun r2 =>
  some r2)
theorem t_X1_guess_88 {l : Launch} {G : zz_G} (hN : 107 ≤ zz_N G) {o : Nat} (ho : zz_isCurve G o) {m : zz_Mem}  : ∀ (v1 : Int64) (v3 : Int64), zz_Sim zz_sh l G mX1_guess 2 zz_vJr (zz_mC m) (f_X1_guess_88 o m v1 v3) 88 [(1, .long v1), (3, .long v3)] [] m := by
  intro v1 v3
  unfold f_X1_guess_88
  refine zs_lload_n dX1_guess_88 rfl 1 rfl ?_
  refine zs_lconst (v := (0 : Int64)) dX1_guess_89 rfl ?_
  refine zs_lcmp_le (tgt := 105) dX1_guess_90 dX1_guess_91 (by decide) ?_ ?_
  · refine zs_lconst (v := (0 : Int64)) dX1_guess_105 rfl ?_
    exact zs_lret dX1_guess_106 rfl rfl rfl
  · refine zs_lload_n dX1_guess_94 rfl 0 rfl ?_
    refine zs_lload_n dX1_guess_95 rfl 1 rfl ?_
    refine zs_cS_jR (rest := []) (k_J9_floorDiv_f86c9 hN _ _ _) dX1_guess_96 ls_X1_166 ok_J9_floorDiv_f86c9 (Nat.le_of_ble_eq_true rfl) rfl rfl (Nat.le_of_ble_eq_true rfl) (fun r1 => ?_)
    refine zs_cS_jR (rest := []) (k_X1_inFactorBounds hN _ _) dX1_guess_99 ls_X1_170 ok_X1_inFactorBounds (Nat.le_of_ble_eq_true rfl) rfl rfl (Nat.le_of_ble_eq_true rfl) (fun r2 => ?_)
    refine zs_goto (tgt := 106) dX1_guess_102 (by decide) ?_
    exact zs_lret dX1_guess_106 rfl rfl rfl
def f_X1_guess_25 (o : Nat) (m : zz_Mem)  : Nat → Int64 → Int64 → Int32 → Option Int64
  | 0, _, _, _ => none
  | n + 1, v1, v3, v5 =>
  if (m.1 o 6) ≤ v5 then (
  f_X1_guess_88 o m v1 v3)
  else (
  zz_ix v5 34 <|
  zz_ix v5 34 <|
  zz_letJ (v1 - (((m.2.1 (o + 3) v5.toNatClampNeg) * (m.2.1 o 9)) * (((m.1 o 10) - (m.1 (o + 4) v5.toNatClampNeg)).toInt64))) fun y1 =>
  zz_ix v5 34 <|
  zz_ix v5 34 <|
  zz_letJ (v3 + ((m.2.1 (o + 3) v5.toNatClampNeg) * ((m.1 (o + 4) v5.toNatClampNeg).toInt64))) fun y2 =>
  zz_letI (v5 + (1 : Int32)) fun x3 =>
  f_X1_guess_25 o m n y1 y2 x3)
theorem t_X1_guess_25 {l : Launch} {G : zz_G} (hN : 107 ≤ zz_N G) {o : Nat} (ho : zz_isCurve G o) {m : zz_Mem}  : ∀ (n : Nat) (v1 : Int64) (v3 : Int64) (v5 : Int32), zz_Sim zz_sh l G mX1_guess 2 zz_vJr (zz_mC m) (f_X1_guess_25 o m n v1 v3 v5) 25 [(0, .ref (zz_a G o)), (1, .long v1), (3, .long v3), (5, .int v5)] [] m := by
  intro n
  induction n with
  | zero => intro _ _ _; exact zs_none
  | succ n ih =>
    intro v1 v3 v5
    rw [f_X1_guess_25]
    refine zs_iload dX1_guess_25 3 rfl ?_
    refine zs_aload_n dX1_guess_27 rfl 0 rfl ?_
    refine zs_getI fl_X1_108 dX1_guess_28 (ho).1 rfl ?_
    refine zs_icmp_ge (tgt := 88) dX1_guess_31 (by decide) ?_ ?_
    · refine zs_sub [1, 2] rfl ?_
      exact t_X1_guess_88 hN ho _ _
    · refine zs_lload_n dX1_guess_34 rfl 1 rfl ?_
      refine zs_aload_n dX1_guess_35 rfl 0 rfl ?_
      refine zs_getR fl_X1_18 dX1_guess_36 (ho).1 rfl ?_
      refine zs_iload dX1_guess_39 3 rfl ?_
      refine zs_laldG dX1_guess_41 (ho).2.2.2.1 ?_
      refine zs_aload_n dX1_guess_42 rfl 0 rfl ?_
      refine zs_getJ fl_X1_98 dX1_guess_43 (ho).1 rfl ?_
      refine zs_lmul dX1_guess_46 ?_
      refine zs_aload_n dX1_guess_47 rfl 0 rfl ?_
      refine zs_getI fl_X1_105 dX1_guess_48 (ho).1 rfl ?_
      refine zs_aload_n dX1_guess_51 rfl 0 rfl ?_
      refine zs_getR fl_X1_22 dX1_guess_52 (ho).1 rfl ?_
      refine zs_iload dX1_guess_55 3 rfl ?_
      refine zs_ialdG dX1_guess_57 (ho).2.2.2.2 ?_
      refine zs_isub dX1_guess_58 ?_
      refine zs_i2l dX1_guess_59 ?_
      refine zs_lmul dX1_guess_60 ?_
      refine zs_lsub dX1_guess_61 ?_
      refine zs_letJ (fun y1 => ?_)
      refine zs_lstore_n [(1, .long y1), (0, .ref (zz_a G o)), (3, .long v3), (5, .int v5)] dX1_guess_62 rfl (Nat.le_of_ble_eq_true rfl) rfl ?_
      refine zs_lload_n dX1_guess_63 rfl 2 rfl ?_
      refine zs_aload_n dX1_guess_64 rfl 1 rfl ?_
      refine zs_getR fl_X1_18 dX1_guess_65 (ho).1 rfl ?_
      refine zs_iload dX1_guess_68 3 rfl ?_
      refine zs_laldG dX1_guess_70 (ho).2.2.2.1 ?_
      refine zs_aload_n dX1_guess_71 rfl 1 rfl ?_
      refine zs_getR fl_X1_22 dX1_guess_72 (ho).1 rfl ?_
      refine zs_iload dX1_guess_75 3 rfl ?_
      refine zs_ialdG dX1_guess_77 (ho).2.2.2.2 ?_
      refine zs_i2l dX1_guess_78 ?_
      refine zs_lmul dX1_guess_79 ?_
      refine zs_ladd dX1_guess_80 ?_
      refine zs_letJ (fun y2 => ?_)
      refine zs_lstore_n [(3, .long y2), (1, .long y1), (0, .ref (zz_a G o)), (5, .int v5)] dX1_guess_81 rfl (Nat.le_of_ble_eq_true rfl) rfl ?_
      refine zs_iinc (fun y => [(5, .int y), (3, .long y2), (1, .long y1), (0, .ref (zz_a G o))]) dX1_guess_82 3 rfl ci_1 (Nat.le_of_ble_eq_true rfl) (fun _ => rfl) (fun x3 => ?_)
      refine zs_goto (tgt := 25) dX1_guess_85 (by decide) ?_
      refine zs_sub [3, 2, 1, 0] rfl ?_
      exact ih _ _ _
def f_X1_guess (o : Nat) (m : zz_Mem)  : Option Int64 :=
  zz_letJ ((m.2.1 o 8) * ((m.1 o 10).toInt64)) fun y1 =>
  zz_letJ ((m.2.1 o 7) * ((m.1 o 10).toInt64)) fun y2 =>
  f_X1_guess_25 o m zz_fuel y1 y2 (0 : Int32)
theorem k_X1_guess {l : Launch} {G : zz_G} (hN : 107 ≤ zz_N G) {o : Nat} (ho : zz_isCurve G o) : ∀ (m : zz_Mem), zz_Con zz_sh l G mX1_guess 2 [.ref (zz_a G o)] zz_vJr (zz_mC m) (f_X1_guess o m) m := by
  intro m
  refine zz_con (lv := [(0, .ref (zz_a G o))]) (by decide +kernel) (Nat.le_of_ble_eq_true rfl) rfl ?_
  unfold f_X1_guess
  refine zs_aload_n dX1_guess_0 rfl 0 rfl ?_
  refine zs_getJ fl_X1_140 dX1_guess_1 (ho).1 rfl ?_
  refine zs_aload_n dX1_guess_4 rfl 0 rfl ?_
  refine zs_getI fl_X1_105 dX1_guess_5 (ho).1 rfl ?_
  refine zs_i2l dX1_guess_8 ?_
  refine zs_lmul dX1_guess_9 ?_
  refine zs_letJ (fun y1 => ?_)
  refine zs_lstore_n [(1, .long y1), (0, .ref (zz_a G o))] dX1_guess_10 rfl (Nat.le_of_ble_eq_true rfl) rfl ?_
  refine zs_aload_n dX1_guess_11 rfl 1 rfl ?_
  refine zs_getJ fl_X1_137 dX1_guess_12 (ho).1 rfl ?_
  refine zs_aload_n dX1_guess_15 rfl 1 rfl ?_
  refine zs_getI fl_X1_105 dX1_guess_16 (ho).1 rfl ?_
  refine zs_i2l dX1_guess_19 ?_
  refine zs_lmul dX1_guess_20 ?_
  refine zs_letJ (fun y2 => ?_)
  refine zs_lstore_n [(3, .long y2), (1, .long y1), (0, .ref (zz_a G o))] dX1_guess_21 rfl (Nat.le_of_ble_eq_true rfl) rfl ?_
  refine zs_iconst (v := (0 : Int32)) dX1_guess_22 ci_0 ?_
  refine zs_istore [(5, .int (0 : Int32)), (3, .long y2), (1, .long y1), (0, .ref (zz_a G o))] dX1_guess_23 (Nat.le_of_ble_eq_true rfl) rfl ?_
  refine zs_sub [3, 2, 1, 0] rfl ?_
  exact t_X1_guess_25 hN ho zz_fuel _ _ _
/-! X1_holds: PillarDesk$Curve.holds(J)Z -/
theorem dX1_holds_0 : decode cX1_holds 0 = .ok (.aload_n 0, 1) := by decide +kernel
theorem dX1_holds_1 : decode cX1_holds 1 = .ok (.getfield 137, 3) := by decide +kernel
theorem dX1_holds_4 : decode cX1_holds 4 = .ok (.lload_n 1, 1) := by decide +kernel
theorem dX1_holds_5 : decode cX1_holds 5 = .ok (.lmul, 1) := by decide +kernel
theorem dX1_holds_6 : decode cX1_holds 6 = .ok (.lstore_n 3, 1) := by decide +kernel
theorem dX1_holds_7 : decode cX1_holds 7 = .ok (.iconst 0, 1) := by decide +kernel
theorem dX1_holds_8 : decode cX1_holds 8 = .ok (.istore 5, 2) := by decide +kernel
theorem dX1_holds_10 : decode cX1_holds 10 = .ok (.iload 5, 2) := by decide +kernel
theorem dX1_holds_12 : decode cX1_holds 12 = .ok (.aload_n 0, 1) := by decide +kernel
theorem dX1_holds_13 : decode cX1_holds 13 = .ok (.getfield 108, 3) := by decide +kernel
theorem dX1_holds_16 : decode cX1_holds 16 = .ok (.if_icmp .ge 55, 3) := by decide +kernel
theorem dX1_holds_19 : decode cX1_holds 19 = .ok (.aload_n 0, 1) := by decide +kernel
theorem dX1_holds_20 : decode cX1_holds 20 = .ok (.getfield 105, 3) := by decide +kernel
theorem dX1_holds_23 : decode cX1_holds 23 = .ok (.ifCond .le 48, 3) := by decide +kernel
theorem dX1_holds_26 : decode cX1_holds 26 = .ok (.lload_n 3, 1) := by decide +kernel
theorem dX1_holds_27 : decode cX1_holds 27 = .ok (.aload_n 0, 1) := by decide +kernel
theorem dX1_holds_28 : decode cX1_holds 28 = .ok (.getfield 18, 3) := by decide +kernel
theorem dX1_holds_31 : decode cX1_holds 31 = .ok (.iload 5, 2) := by decide +kernel
theorem dX1_holds_33 : decode cX1_holds 33 = .ok (.laload, 1) := by decide +kernel
theorem dX1_holds_34 : decode cX1_holds 34 = .ok (.aload_n 0, 1) := by decide +kernel
theorem dX1_holds_35 : decode cX1_holds 35 = .ok (.getfield 98, 3) := by decide +kernel
theorem dX1_holds_38 : decode cX1_holds 38 = .ok (.lload_n 1, 1) := by decide +kernel
theorem dX1_holds_39 : decode cX1_holds 39 = .ok (.aload_n 0, 1) := by decide +kernel
theorem dX1_holds_40 : decode cX1_holds 40 = .ok (.getfield 98, 3) := by decide +kernel
theorem dX1_holds_43 : decode cX1_holds 43 = .ok (.lsub, 1) := by decide +kernel
theorem dX1_holds_44 : decode cX1_holds 44 = .ok (.aload_n 0, 1) := by decide +kernel
theorem dX1_holds_45 : decode cX1_holds 45 = .ok (.getfield 22, 3) := by decide +kernel
theorem dX1_holds_48 : decode cX1_holds 48 = .ok (.iload 5, 2) := by decide +kernel
theorem dX1_holds_50 : decode cX1_holds 50 = .ok (.iaload, 1) := by decide +kernel
theorem dX1_holds_51 : decode cX1_holds 51 = .ok (.i2l, 1) := by decide +kernel
theorem dX1_holds_52 : decode cX1_holds 52 = .ok (.lmul, 1) := by decide +kernel
theorem dX1_holds_53 : decode cX1_holds 53 = .ok (.aload_n 0, 1) := by decide +kernel
theorem dX1_holds_54 : decode cX1_holds 54 = .ok (.getfield 105, 3) := by decide +kernel
theorem dX1_holds_57 : decode cX1_holds 57 = .ok (.i2l, 1) := by decide +kernel
theorem dX1_holds_58 : decode cX1_holds 58 = .ok (.invokestatic 166, 3) := by decide +kernel
theorem dX1_holds_61 : decode cX1_holds 61 = .ok (.ladd, 1) := by decide +kernel
theorem dX1_holds_62 : decode cX1_holds 62 = .ok (.lmul, 1) := by decide +kernel
theorem dX1_holds_63 : decode cX1_holds 63 = .ok (.ladd, 1) := by decide +kernel
theorem dX1_holds_64 : decode cX1_holds 64 = .ok (.lstore_n 3, 1) := by decide +kernel
theorem dX1_holds_65 : decode cX1_holds 65 = .ok (.iinc 5 1, 3) := by decide +kernel
theorem dX1_holds_68 : decode cX1_holds 68 = .ok (.goto (-58), 3) := by decide +kernel
theorem dX1_holds_71 : decode cX1_holds 71 = .ok (.lload_n 3, 1) := by decide +kernel
theorem dX1_holds_72 : decode cX1_holds 72 = .ok (.aload_n 0, 1) := by decide +kernel
theorem dX1_holds_73 : decode cX1_holds 73 = .ok (.getfield 140, 3) := by decide +kernel
theorem dX1_holds_76 : decode cX1_holds 76 = .ok (.lcmp, 1) := by decide +kernel
theorem dX1_holds_77 : decode cX1_holds 77 = .ok (.ifCond .gt 7, 3) := by decide +kernel
theorem dX1_holds_80 : decode cX1_holds 80 = .ok (.iconst 1, 1) := by decide +kernel
theorem dX1_holds_81 : decode cX1_holds 81 = .ok (.goto 4, 3) := by decide +kernel
theorem dX1_holds_84 : decode cX1_holds 84 = .ok (.iconst 0, 1) := by decide +kernel
theorem dX1_holds_85 : decode cX1_holds 85 = .ok (.ireturn, 1) := by decide +kernel
def f_X1_holds_71 (o : Nat) (m : zz_Mem)  (v3 : Int64) : Option Int32 :=
  if (m.2.1 o 8) < v3 then (
  some (0 : Int32))
  else (
  some (1 : Int32))
theorem t_X1_holds_71 {l : Launch} {G : zz_G} (hN : 107 ≤ zz_N G) {o : Nat} (ho : zz_isCurve G o) {m : zz_Mem}  : ∀ (v3 : Int64), zz_Sim zz_sh l G mX1_holds 1 zz_vIr (zz_mC m) (f_X1_holds_71 o m v3) 71 [(0, .ref (zz_a G o)), (3, .long v3)] [] m := by
  intro v3
  unfold f_X1_holds_71
  refine zs_lload_n dX1_holds_71 rfl 1 rfl ?_
  refine zs_aload_n dX1_holds_72 rfl 0 rfl ?_
  refine zs_getJ fl_X1_140 dX1_holds_73 (ho).1 rfl ?_
  refine zs_lcmp_gt (tgt := 84) dX1_holds_76 dX1_holds_77 (by decide) ?_ ?_
  · refine zs_iconst (v := (0 : Int32)) dX1_holds_84 ci_0 ?_
    exact zs_zret dX1_holds_85 rfl rfl rfl rfl
  · refine zs_iconst (v := (1 : Int32)) dX1_holds_80 ci_1 ?_
    refine zs_goto (tgt := 85) dX1_holds_81 (by decide) ?_
    exact zs_zret dX1_holds_85 rfl rfl rfl rfl
def f_X1_holds_10 (o : Nat) (m : zz_Mem)  : Nat → Int64 → Int64 → Int32 → Option Int32
  | 0, _, _, _ => none
  | n + 1, v1, v3, v5 =>
  if (m.1 o 6) ≤ v5 then (
  f_X1_holds_71 o m v3)
  else (
  if (m.1 o 10) ≤ 0 then (
  f_X1_holds_71 o m v3)
  else (
  zz_ix v5 34 <|
  zz_ix v5 34 <|
  zz_bndR (f_J9_floorDiv_f86c9 ((v1 - (m.2.1 o 9)) * ((m.1 (o + 4) v5.toNatClampNeg).toInt64)) ((m.1 o 10).toInt64)) fun r1 =>
  zz_letJ (v3 + ((m.2.1 (o + 3) v5.toNatClampNeg) * ((m.2.1 o 9) + r1))) fun y2 =>
  zz_letI (v5 + (1 : Int32)) fun x3 =>
  f_X1_holds_10 o m n v1 y2 x3))
theorem t_X1_holds_10 {l : Launch} {G : zz_G} (hN : 107 ≤ zz_N G) {o : Nat} (ho : zz_isCurve G o) {m : zz_Mem}  : ∀ (n : Nat) (v1 : Int64) (v3 : Int64) (v5 : Int32), zz_Sim zz_sh l G mX1_holds 1 zz_vIr (zz_mC m) (f_X1_holds_10 o m n v1 v3 v5) 10 [(0, .ref (zz_a G o)), (1, .long v1), (3, .long v3), (5, .int v5)] [] m := by
  intro n
  induction n with
  | zero => intro _ _ _; exact zs_none
  | succ n ih =>
    intro v1 v3 v5
    rw [f_X1_holds_10]
    refine zs_iload dX1_holds_10 3 rfl ?_
    refine zs_aload_n dX1_holds_12 rfl 0 rfl ?_
    refine zs_getI fl_X1_108 dX1_holds_13 (ho).1 rfl ?_
    refine zs_icmp_ge (tgt := 71) dX1_holds_16 (by decide) ?_ ?_
    · refine zs_sub [0, 2] rfl ?_
      exact t_X1_holds_71 hN ho _
    · refine zs_aload_n dX1_holds_19 rfl 0 rfl ?_
      refine zs_getI fl_X1_105 dX1_holds_20 (ho).1 rfl ?_
      refine zs_if_le (tgt := 71) dX1_holds_23 (by decide) ?_ ?_
      · refine zs_sub [0, 2] rfl ?_
        exact t_X1_holds_71 hN ho _
      · refine zs_lload_n dX1_holds_26 rfl 2 rfl ?_
        refine zs_aload_n dX1_holds_27 rfl 0 rfl ?_
        refine zs_getR fl_X1_18 dX1_holds_28 (ho).1 rfl ?_
        refine zs_iload dX1_holds_31 3 rfl ?_
        refine zs_laldG dX1_holds_33 (ho).2.2.2.1 ?_
        refine zs_aload_n dX1_holds_34 rfl 0 rfl ?_
        refine zs_getJ fl_X1_98 dX1_holds_35 (ho).1 rfl ?_
        refine zs_lload_n dX1_holds_38 rfl 1 rfl ?_
        refine zs_aload_n dX1_holds_39 rfl 0 rfl ?_
        refine zs_getJ fl_X1_98 dX1_holds_40 (ho).1 rfl ?_
        refine zs_lsub dX1_holds_43 ?_
        refine zs_aload_n dX1_holds_44 rfl 0 rfl ?_
        refine zs_getR fl_X1_22 dX1_holds_45 (ho).1 rfl ?_
        refine zs_iload dX1_holds_48 3 rfl ?_
        refine zs_ialdG dX1_holds_50 (ho).2.2.2.2 ?_
        refine zs_i2l dX1_holds_51 ?_
        refine zs_lmul dX1_holds_52 ?_
        refine zs_aload_n dX1_holds_53 rfl 0 rfl ?_
        refine zs_getI fl_X1_105 dX1_holds_54 (ho).1 rfl ?_
        refine zs_i2l dX1_holds_57 ?_
        refine zs_cS_jR (rest := [.long (m.2.1 o 9), .long (m.2.1 (o + 3) v5.toNatClampNeg), .long v3]) (k_J9_floorDiv_f86c9 hN _ _ _) dX1_holds_58 ls_X1_166 ok_J9_floorDiv_f86c9 (Nat.le_of_ble_eq_true rfl) rfl rfl (Nat.le_of_ble_eq_true rfl) (fun r1 => ?_)
        refine zs_ladd dX1_holds_61 ?_
        refine zs_lmul dX1_holds_62 ?_
        refine zs_ladd dX1_holds_63 ?_
        refine zs_letJ (fun y2 => ?_)
        refine zs_lstore_n [(3, .long y2), (0, .ref (zz_a G o)), (1, .long v1), (5, .int v5)] dX1_holds_64 rfl (Nat.le_of_ble_eq_true rfl) rfl ?_
        refine zs_iinc (fun y => [(5, .int y), (3, .long y2), (0, .ref (zz_a G o)), (1, .long v1)]) dX1_holds_65 3 rfl ci_1 (Nat.le_of_ble_eq_true rfl) (fun _ => rfl) (fun x3 => ?_)
        refine zs_goto (tgt := 10) dX1_holds_68 (by decide) ?_
        refine zs_sub [2, 3, 1, 0] rfl ?_
        exact ih _ _ _
def f_X1_holds (o : Nat) (m : zz_Mem) (p1 : Int64) : Option Int32 :=
  zz_letJ ((m.2.1 o 7) * p1) fun y1 =>
  f_X1_holds_10 o m zz_fuel p1 y1 (0 : Int32)
theorem k_X1_holds {l : Launch} {G : zz_G} (hN : 107 ≤ zz_N G) {o : Nat} (ho : zz_isCurve G o) : ∀ (p1 : Int64) (m : zz_Mem), zz_Con zz_sh l G mX1_holds 1 [.ref (zz_a G o), .long p1] zz_vIr (zz_mC m) (f_X1_holds o m p1) m := by
  intro p1 m
  refine zz_con (lv := [(0, .ref (zz_a G o)), (1, .long p1)]) (by decide +kernel) (Nat.le_of_ble_eq_true rfl) rfl ?_
  unfold f_X1_holds
  refine zs_aload_n dX1_holds_0 rfl 0 rfl ?_
  refine zs_getJ fl_X1_137 dX1_holds_1 (ho).1 rfl ?_
  refine zs_lload_n dX1_holds_4 rfl 1 rfl ?_
  refine zs_lmul dX1_holds_5 ?_
  refine zs_letJ (fun y1 => ?_)
  refine zs_lstore_n [(3, .long y1), (0, .ref (zz_a G o)), (1, .long p1)] dX1_holds_6 rfl (Nat.le_of_ble_eq_true rfl) rfl ?_
  refine zs_iconst (v := (0 : Int32)) dX1_holds_7 ci_0 ?_
  refine zs_istore [(5, .int (0 : Int32)), (3, .long y1), (0, .ref (zz_a G o)), (1, .long p1)] dX1_holds_8 (Nat.le_of_ble_eq_true rfl) rfl ?_
  refine zs_sub [2, 3, 1, 0] rfl ?_
  exact t_X1_holds_10 hN ho zz_fuel _ _ _
/-! X1_greatestFrom: PillarDesk$Curve.greatestFrom(J)J -/
theorem dX1_greatestFrom_0 : decode cX1_greatestFrom 0 = .ok (.lload_n 1, 1) := by decide +kernel
theorem dX1_greatestFrom_1 : decode cX1_greatestFrom 1 = .ok (.lstore_n 3, 1) := by decide +kernel
theorem dX1_greatestFrom_2 : decode cX1_greatestFrom 2 = .ok (.lload_n 1, 1) := by decide +kernel
theorem dX1_greatestFrom_3 : decode cX1_greatestFrom 3 = .ok (.lconst 1, 1) := by decide +kernel
theorem dX1_greatestFrom_4 : decode cX1_greatestFrom 4 = .ok (.ladd, 1) := by decide +kernel
theorem dX1_greatestFrom_5 : decode cX1_greatestFrom 5 = .ok (.lstore 5, 2) := by decide +kernel
theorem dX1_greatestFrom_7 : decode cX1_greatestFrom 7 = .ok (.lconst 1, 1) := by decide +kernel
theorem dX1_greatestFrom_8 : decode cX1_greatestFrom 8 = .ok (.lstore 7, 2) := by decide +kernel
theorem dX1_greatestFrom_10 : decode cX1_greatestFrom 10 = .ok (.lload 7, 2) := by decide +kernel
theorem dX1_greatestFrom_12 : decode cX1_greatestFrom 12 = .ok (.ldc2_w 180, 3) := by decide +kernel
theorem dX1_greatestFrom_15 : decode cX1_greatestFrom 15 = .ok (.lcmp, 1) := by decide +kernel
theorem dX1_greatestFrom_16 : decode cX1_greatestFrom 16 = .ok (.ifCond .gt 39, 3) := by decide +kernel
theorem dX1_greatestFrom_19 : decode cX1_greatestFrom 19 = .ok (.lload_n 3, 1) := by decide +kernel
theorem dX1_greatestFrom_20 : decode cX1_greatestFrom 20 = .ok (.lconst 0, 1) := by decide +kernel
theorem dX1_greatestFrom_21 : decode cX1_greatestFrom 21 = .ok (.lcmp, 1) := by decide +kernel
theorem dX1_greatestFrom_22 : decode cX1_greatestFrom 22 = .ok (.ifCond .le 33, 3) := by decide +kernel
theorem dX1_greatestFrom_25 : decode cX1_greatestFrom 25 = .ok (.aload_n 0, 1) := by decide +kernel
theorem dX1_greatestFrom_26 : decode cX1_greatestFrom 26 = .ok (.lload_n 3, 1) := by decide +kernel
theorem dX1_greatestFrom_27 : decode cX1_greatestFrom 27 = .ok (.invokevirtual 182, 3) := by decide +kernel
theorem dX1_greatestFrom_30 : decode cX1_greatestFrom 30 = .ok (.ifCond .ne 25, 3) := by decide +kernel
theorem dX1_greatestFrom_33 : decode cX1_greatestFrom 33 = .ok (.lload_n 3, 1) := by decide +kernel
theorem dX1_greatestFrom_34 : decode cX1_greatestFrom 34 = .ok (.lstore 5, 2) := by decide +kernel
theorem dX1_greatestFrom_36 : decode cX1_greatestFrom 36 = .ok (.lconst 0, 1) := by decide +kernel
theorem dX1_greatestFrom_37 : decode cX1_greatestFrom 37 = .ok (.lload_n 3, 1) := by decide +kernel
theorem dX1_greatestFrom_38 : decode cX1_greatestFrom 38 = .ok (.lload 7, 2) := by decide +kernel
theorem dX1_greatestFrom_40 : decode cX1_greatestFrom 40 = .ok (.lsub, 1) := by decide +kernel
theorem dX1_greatestFrom_41 : decode cX1_greatestFrom 41 = .ok (.invokestatic 178, 3) := by decide +kernel
theorem dX1_greatestFrom_44 : decode cX1_greatestFrom 44 = .ok (.lstore_n 3, 1) := by decide +kernel
theorem dX1_greatestFrom_45 : decode cX1_greatestFrom 45 = .ok (.lload 7, 2) := by decide +kernel
theorem dX1_greatestFrom_47 : decode cX1_greatestFrom 47 = .ok (.lload 7, 2) := by decide +kernel
theorem dX1_greatestFrom_49 : decode cX1_greatestFrom 49 = .ok (.ladd, 1) := by decide +kernel
theorem dX1_greatestFrom_50 : decode cX1_greatestFrom 50 = .ok (.lstore 7, 2) := by decide +kernel
theorem dX1_greatestFrom_52 : decode cX1_greatestFrom 52 = .ok (.goto (-42), 3) := by decide +kernel
theorem dX1_greatestFrom_55 : decode cX1_greatestFrom 55 = .ok (.lconst 1, 1) := by decide +kernel
theorem dX1_greatestFrom_56 : decode cX1_greatestFrom 56 = .ok (.lstore 7, 2) := by decide +kernel
theorem dX1_greatestFrom_58 : decode cX1_greatestFrom 58 = .ok (.lload 7, 2) := by decide +kernel
theorem dX1_greatestFrom_60 : decode cX1_greatestFrom 60 = .ok (.ldc2_w 180, 3) := by decide +kernel
theorem dX1_greatestFrom_63 : decode cX1_greatestFrom 63 = .ok (.lcmp, 1) := by decide +kernel
theorem dX1_greatestFrom_64 : decode cX1_greatestFrom 64 = .ok (.ifCond .gt 47, 3) := by decide +kernel
theorem dX1_greatestFrom_67 : decode cX1_greatestFrom 67 = .ok (.lload 5, 2) := by decide +kernel
theorem dX1_greatestFrom_69 : decode cX1_greatestFrom 69 = .ok (.ldc2_w 173, 3) := by decide +kernel
theorem dX1_greatestFrom_72 : decode cX1_greatestFrom 72 = .ok (.lcmp, 1) := by decide +kernel
theorem dX1_greatestFrom_73 : decode cX1_greatestFrom 73 = .ok (.ifCond .gt 38, 3) := by decide +kernel
theorem dX1_greatestFrom_76 : decode cX1_greatestFrom 76 = .ok (.aload_n 0, 1) := by decide +kernel
theorem dX1_greatestFrom_77 : decode cX1_greatestFrom 77 = .ok (.lload 5, 2) := by decide +kernel
theorem dX1_greatestFrom_79 : decode cX1_greatestFrom 79 = .ok (.invokevirtual 182, 3) := by decide +kernel
theorem dX1_greatestFrom_82 : decode cX1_greatestFrom 82 = .ok (.ifCond .eq 29, 3) := by decide +kernel
theorem dX1_greatestFrom_85 : decode cX1_greatestFrom 85 = .ok (.lload 5, 2) := by decide +kernel
theorem dX1_greatestFrom_87 : decode cX1_greatestFrom 87 = .ok (.lstore_n 3, 1) := by decide +kernel
theorem dX1_greatestFrom_88 : decode cX1_greatestFrom 88 = .ok (.ldc2_w 186, 3) := by decide +kernel
theorem dX1_greatestFrom_91 : decode cX1_greatestFrom 91 = .ok (.lload 5, 2) := by decide +kernel
theorem dX1_greatestFrom_93 : decode cX1_greatestFrom 93 = .ok (.lload 7, 2) := by decide +kernel
theorem dX1_greatestFrom_95 : decode cX1_greatestFrom 95 = .ok (.ladd, 1) := by decide +kernel
theorem dX1_greatestFrom_96 : decode cX1_greatestFrom 96 = .ok (.invokestatic 175, 3) := by decide +kernel
theorem dX1_greatestFrom_99 : decode cX1_greatestFrom 99 = .ok (.lstore 5, 2) := by decide +kernel
theorem dX1_greatestFrom_101 : decode cX1_greatestFrom 101 = .ok (.lload 7, 2) := by decide +kernel
theorem dX1_greatestFrom_103 : decode cX1_greatestFrom 103 = .ok (.lload 7, 2) := by decide +kernel
theorem dX1_greatestFrom_105 : decode cX1_greatestFrom 105 = .ok (.ladd, 1) := by decide +kernel
theorem dX1_greatestFrom_106 : decode cX1_greatestFrom 106 = .ok (.lstore 7, 2) := by decide +kernel
theorem dX1_greatestFrom_108 : decode cX1_greatestFrom 108 = .ok (.goto (-50), 3) := by decide +kernel
theorem dX1_greatestFrom_111 : decode cX1_greatestFrom 111 = .ok (.iconst 0, 1) := by decide +kernel
theorem dX1_greatestFrom_112 : decode cX1_greatestFrom 112 = .ok (.istore 7, 2) := by decide +kernel
theorem dX1_greatestFrom_114 : decode cX1_greatestFrom 114 = .ok (.iload 7, 2) := by decide +kernel
theorem dX1_greatestFrom_116 : decode cX1_greatestFrom 116 = .ok (.bipush 40, 2) := by decide +kernel
theorem dX1_greatestFrom_118 : decode cX1_greatestFrom 118 = .ok (.if_icmp .ge 47, 3) := by decide +kernel
theorem dX1_greatestFrom_121 : decode cX1_greatestFrom 121 = .ok (.lload_n 3, 1) := by decide +kernel
theorem dX1_greatestFrom_122 : decode cX1_greatestFrom 122 = .ok (.lconst 1, 1) := by decide +kernel
theorem dX1_greatestFrom_123 : decode cX1_greatestFrom 123 = .ok (.ladd, 1) := by decide +kernel
theorem dX1_greatestFrom_124 : decode cX1_greatestFrom 124 = .ok (.lload 5, 2) := by decide +kernel
theorem dX1_greatestFrom_126 : decode cX1_greatestFrom 126 = .ok (.lcmp, 1) := by decide +kernel
theorem dX1_greatestFrom_127 : decode cX1_greatestFrom 127 = .ok (.ifCond .ge 38, 3) := by decide +kernel
theorem dX1_greatestFrom_130 : decode cX1_greatestFrom 130 = .ok (.lload_n 3, 1) := by decide +kernel
theorem dX1_greatestFrom_131 : decode cX1_greatestFrom 131 = .ok (.lload 5, 2) := by decide +kernel
theorem dX1_greatestFrom_133 : decode cX1_greatestFrom 133 = .ok (.ladd, 1) := by decide +kernel
theorem dX1_greatestFrom_134 : decode cX1_greatestFrom 134 = .ok (.ldc2_w 188, 3) := by decide +kernel
theorem dX1_greatestFrom_137 : decode cX1_greatestFrom 137 = .ok (.ldiv, 1) := by decide +kernel
theorem dX1_greatestFrom_138 : decode cX1_greatestFrom 138 = .ok (.lstore 8, 2) := by decide +kernel
theorem dX1_greatestFrom_140 : decode cX1_greatestFrom 140 = .ok (.aload_n 0, 1) := by decide +kernel
theorem dX1_greatestFrom_141 : decode cX1_greatestFrom 141 = .ok (.lload 8, 2) := by decide +kernel
theorem dX1_greatestFrom_143 : decode cX1_greatestFrom 143 = .ok (.invokevirtual 182, 3) := by decide +kernel
theorem dX1_greatestFrom_146 : decode cX1_greatestFrom 146 = .ok (.ifCond .eq 9, 3) := by decide +kernel
theorem dX1_greatestFrom_149 : decode cX1_greatestFrom 149 = .ok (.lload 8, 2) := by decide +kernel
theorem dX1_greatestFrom_151 : decode cX1_greatestFrom 151 = .ok (.lstore_n 3, 1) := by decide +kernel
theorem dX1_greatestFrom_152 : decode cX1_greatestFrom 152 = .ok (.goto 7, 3) := by decide +kernel
theorem dX1_greatestFrom_155 : decode cX1_greatestFrom 155 = .ok (.lload 8, 2) := by decide +kernel
theorem dX1_greatestFrom_157 : decode cX1_greatestFrom 157 = .ok (.lstore 5, 2) := by decide +kernel
theorem dX1_greatestFrom_159 : decode cX1_greatestFrom 159 = .ok (.iinc 7 1, 3) := by decide +kernel
theorem dX1_greatestFrom_162 : decode cX1_greatestFrom 162 = .ok (.goto (-48), 3) := by decide +kernel
theorem dX1_greatestFrom_165 : decode cX1_greatestFrom 165 = .ok (.lload_n 3, 1) := by decide +kernel
theorem dX1_greatestFrom_166 : decode cX1_greatestFrom 166 = .ok (.lreturn, 1) := by decide +kernel
def f_X1_greatestFrom_114 (o : Nat) (m : zz_Mem)  : Nat → Int64 → Int64 → Int32 → Option Int64
  | 0, _, _, _ => none
  | n + 1, v3, v5, v7 =>
  if (40 : Int32) ≤ v7 then (
  some v3)
  else (
  if v5 ≤ (v3 + (1 : Int64)) then (
  some v3)
  else (
  zz_letJ ((v3 + v5) / (2 : Int64)) fun y1 =>
  zz_bndR (f_X1_holds o m y1) fun r2 =>
  if r2 = 0 then (
  zz_letI (v7 + (1 : Int32)) fun x3 =>
  f_X1_greatestFrom_114 o m n v3 y1 x3)
  else (
  zz_letI (v7 + (1 : Int32)) fun x4 =>
  f_X1_greatestFrom_114 o m n y1 v5 x4)))
theorem t_X1_greatestFrom_114 {l : Launch} {G : zz_G} (hN : 107 ≤ zz_N G) {o : Nat} (ho : zz_isCurve G o) {m : zz_Mem}  : ∀ (n : Nat) (v3 : Int64) (v5 : Int64) (v7 : Int32), zz_Sim zz_sh l G mX1_greatestFrom 2 zz_vJr (zz_mC m) (f_X1_greatestFrom_114 o m n v3 v5 v7) 114 [(0, .ref (zz_a G o)), (3, .long v3), (5, .long v5), (7, .int v7)] [] m := by
  intro n
  induction n with
  | zero => intro _ _ _; exact zs_none
  | succ n ih =>
    intro v3 v5 v7
    rw [f_X1_greatestFrom_114]
    refine zs_iload dX1_greatestFrom_114 3 rfl ?_
    refine zs_bipush (v := (40 : Int32)) dX1_greatestFrom_116 cb_40 ?_
    refine zs_icmp_ge (tgt := 165) dX1_greatestFrom_118 (by decide) ?_ ?_
    · refine zs_lload_n dX1_greatestFrom_165 rfl 1 rfl ?_
      exact zs_lret dX1_greatestFrom_166 rfl rfl rfl
    · refine zs_lload_n dX1_greatestFrom_121 rfl 1 rfl ?_
      refine zs_lconst (v := (1 : Int64)) dX1_greatestFrom_122 rfl ?_
      refine zs_ladd dX1_greatestFrom_123 ?_
      refine zs_lload dX1_greatestFrom_124 2 rfl ?_
      refine zs_lcmp_ge (tgt := 165) dX1_greatestFrom_126 dX1_greatestFrom_127 (by decide) ?_ ?_
      · refine zs_lload_n dX1_greatestFrom_165 rfl 1 rfl ?_
        exact zs_lret dX1_greatestFrom_166 rfl rfl rfl
      · refine zs_lload_n dX1_greatestFrom_130 rfl 1 rfl ?_
        refine zs_lload dX1_greatestFrom_131 2 rfl ?_
        refine zs_ladd dX1_greatestFrom_133 ?_
        refine zs_ldc2 (v := (2 : Int64)) dX1_greatestFrom_134 kc_X1_188 ?_
        refine zs_ldiv dX1_greatestFrom_137 (by decide) ?_
        refine zs_letJ (fun y1 => ?_)
        refine zs_lstore [(8, .long y1), (0, .ref (zz_a G o)), (3, .long v3), (5, .long v5), (7, .int v7)] dX1_greatestFrom_138 (Nat.le_of_ble_eq_true rfl) rfl ?_
        refine zs_aload_n dX1_greatestFrom_140 rfl 1 rfl ?_
        refine zs_lload dX1_greatestFrom_141 0 rfl ?_
        refine zs_cV_iR (rest := []) (k_X1_holds hN (ho) _ _) dX1_greatestFrom_143 lv_X1_182 ok_X1_holds (zz_rcv_o (ho).1 rfl) (Nat.le_of_ble_eq_true rfl) rfl rfl (Nat.le_of_ble_eq_true rfl) (fun r2 => ?_)
        refine zs_if_eq (tgt := 155) dX1_greatestFrom_146 (by decide) ?_ ?_
        · refine zs_lload dX1_greatestFrom_155 0 rfl ?_
          refine zs_lstore [(5, .long y1), (8, .long y1), (0, .ref (zz_a G o)), (3, .long v3), (7, .int v7)] dX1_greatestFrom_157 (Nat.le_of_ble_eq_true rfl) rfl ?_
          refine zs_iinc (fun y => [(7, .int y), (5, .long y1), (8, .long y1), (0, .ref (zz_a G o)), (3, .long v3)]) dX1_greatestFrom_159 4 rfl ci_1 (Nat.le_of_ble_eq_true rfl) (fun _ => rfl) (fun x3 => ?_)
          refine zs_goto (tgt := 114) dX1_greatestFrom_162 (by decide) ?_
          refine zs_sub [3, 4, 1, 0] rfl ?_
          exact ih _ _ _
        · refine zs_lload dX1_greatestFrom_149 0 rfl ?_
          refine zs_lstore_n [(3, .long y1), (8, .long y1), (0, .ref (zz_a G o)), (5, .long v5), (7, .int v7)] dX1_greatestFrom_151 rfl (Nat.le_of_ble_eq_true rfl) rfl ?_
          refine zs_goto (tgt := 159) dX1_greatestFrom_152 (by decide) ?_
          refine zs_iinc (fun y => [(7, .int y), (3, .long y1), (8, .long y1), (0, .ref (zz_a G o)), (5, .long v5)]) dX1_greatestFrom_159 4 rfl ci_1 (Nat.le_of_ble_eq_true rfl) (fun _ => rfl) (fun x4 => ?_)
          refine zs_goto (tgt := 114) dX1_greatestFrom_162 (by decide) ?_
          refine zs_sub [3, 1, 4, 0] rfl ?_
          exact ih _ _ _
def f_X1_greatestFrom_58 (o : Nat) (m : zz_Mem)  : Nat → Int64 → Int64 → Int64 → Option Int64
  | 0, _, _, _ => none
  | n + 1, v3, v5, v7 =>
  if (2000000000 : Int64) < v7 then (
  f_X1_greatestFrom_114 o m zz_fuel v3 v5 (0 : Int32))
  else (
  if (1000000000 : Int64) < v5 then (
  f_X1_greatestFrom_114 o m zz_fuel v3 v5 (0 : Int32))
  else (
  zz_bndR (f_X1_holds o m v5) fun r1 =>
  if r1 = 0 then (
  f_X1_greatestFrom_114 o m zz_fuel v3 v5 (0 : Int32))
  else (
  zz_bndR (f_J9_min_f86c9 (1000000001 : Int64) (v5 + v7)) fun r2 =>
  zz_letJ (v7 + v7) fun y3 =>
  f_X1_greatestFrom_58 o m n v5 r2 y3)))
theorem t_X1_greatestFrom_58 {l : Launch} {G : zz_G} (hN : 107 ≤ zz_N G) {o : Nat} (ho : zz_isCurve G o) {m : zz_Mem}  : ∀ (n : Nat) (v3 : Int64) (v5 : Int64) (v7 : Int64), zz_Sim zz_sh l G mX1_greatestFrom 2 zz_vJr (zz_mC m) (f_X1_greatestFrom_58 o m n v3 v5 v7) 58 [(0, .ref (zz_a G o)), (3, .long v3), (5, .long v5), (7, .long v7)] [] m := by
  intro n
  induction n with
  | zero => intro _ _ _; exact zs_none
  | succ n ih =>
    intro v3 v5 v7
    rw [f_X1_greatestFrom_58]
    refine zs_lload dX1_greatestFrom_58 3 rfl ?_
    refine zs_ldc2 (v := (2000000000 : Int64)) dX1_greatestFrom_60 kc_X1_180 ?_
    refine zs_lcmp_gt (tgt := 111) dX1_greatestFrom_63 dX1_greatestFrom_64 (by decide) ?_ ?_
    · refine zs_iconst (v := (0 : Int32)) dX1_greatestFrom_111 ci_0 ?_
      refine zs_istore [(7, .int (0 : Int32)), (0, .ref (zz_a G o)), (3, .long v3), (5, .long v5)] dX1_greatestFrom_112 (Nat.le_of_ble_eq_true rfl) rfl ?_
      refine zs_sub [1, 2, 3, 0] rfl ?_
      exact t_X1_greatestFrom_114 hN ho zz_fuel _ _ _
    · refine zs_lload dX1_greatestFrom_67 2 rfl ?_
      refine zs_ldc2 (v := (1000000000 : Int64)) dX1_greatestFrom_69 kc_X1_173 ?_
      refine zs_lcmp_gt (tgt := 111) dX1_greatestFrom_72 dX1_greatestFrom_73 (by decide) ?_ ?_
      · refine zs_iconst (v := (0 : Int32)) dX1_greatestFrom_111 ci_0 ?_
        refine zs_istore [(7, .int (0 : Int32)), (0, .ref (zz_a G o)), (3, .long v3), (5, .long v5)] dX1_greatestFrom_112 (Nat.le_of_ble_eq_true rfl) rfl ?_
        refine zs_sub [1, 2, 3, 0] rfl ?_
        exact t_X1_greatestFrom_114 hN ho zz_fuel _ _ _
      · refine zs_aload_n dX1_greatestFrom_76 rfl 0 rfl ?_
        refine zs_lload dX1_greatestFrom_77 2 rfl ?_
        refine zs_cV_iR (rest := []) (k_X1_holds hN (ho) _ _) dX1_greatestFrom_79 lv_X1_182 ok_X1_holds (zz_rcv_o (ho).1 rfl) (Nat.le_of_ble_eq_true rfl) rfl rfl (Nat.le_of_ble_eq_true rfl) (fun r1 => ?_)
        refine zs_if_eq (tgt := 111) dX1_greatestFrom_82 (by decide) ?_ ?_
        · refine zs_iconst (v := (0 : Int32)) dX1_greatestFrom_111 ci_0 ?_
          refine zs_istore [(7, .int (0 : Int32)), (0, .ref (zz_a G o)), (3, .long v3), (5, .long v5)] dX1_greatestFrom_112 (Nat.le_of_ble_eq_true rfl) rfl ?_
          refine zs_sub [1, 2, 3, 0] rfl ?_
          exact t_X1_greatestFrom_114 hN ho zz_fuel _ _ _
        · refine zs_lload dX1_greatestFrom_85 2 rfl ?_
          refine zs_lstore_n [(3, .long v5), (0, .ref (zz_a G o)), (5, .long v5), (7, .long v7)] dX1_greatestFrom_87 rfl (Nat.le_of_ble_eq_true rfl) rfl ?_
          refine zs_ldc2 (v := (1000000001 : Int64)) dX1_greatestFrom_88 kc_X1_186 ?_
          refine zs_lload dX1_greatestFrom_91 2 rfl ?_
          refine zs_lload dX1_greatestFrom_93 3 rfl ?_
          refine zs_ladd dX1_greatestFrom_95 ?_
          refine zs_cS_jR (rest := []) (k_J9_min_f86c9 hN _ _ _) dX1_greatestFrom_96 ls_X1_175 ok_J9_min_f86c9 (Nat.le_of_ble_eq_true rfl) rfl rfl (Nat.le_of_ble_eq_true rfl) (fun r2 => ?_)
          refine zs_lstore [(5, .long r2), (3, .long v5), (0, .ref (zz_a G o)), (7, .long v7)] dX1_greatestFrom_99 (Nat.le_of_ble_eq_true rfl) rfl ?_
          refine zs_lload dX1_greatestFrom_101 3 rfl ?_
          refine zs_lload dX1_greatestFrom_103 3 rfl ?_
          refine zs_ladd dX1_greatestFrom_105 ?_
          refine zs_letJ (fun y3 => ?_)
          refine zs_lstore [(7, .long y3), (5, .long r2), (3, .long v5), (0, .ref (zz_a G o))] dX1_greatestFrom_106 (Nat.le_of_ble_eq_true rfl) rfl ?_
          refine zs_goto (tgt := 58) dX1_greatestFrom_108 (by decide) ?_
          refine zs_sub [3, 2, 1, 0] rfl ?_
          exact ih _ _ _
def f_X1_greatestFrom_10 (o : Nat) (m : zz_Mem)  : Nat → Int64 → Int64 → Int64 → Option Int64
  | 0, _, _, _ => none
  | n + 1, v3, v5, v7 =>
  if (2000000000 : Int64) < v7 then (
  f_X1_greatestFrom_58 o m zz_fuel v3 v5 (1 : Int64))
  else (
  if v3 ≤ (0 : Int64) then (
  f_X1_greatestFrom_58 o m zz_fuel v3 v5 (1 : Int64))
  else (
  zz_bndR (f_X1_holds o m v3) fun r1 =>
  if r1 = 0 then (
  zz_bndR (f_J9_max_f86c9 (0 : Int64) (v3 - v7)) fun r2 =>
  zz_letJ (v7 + v7) fun y3 =>
  f_X1_greatestFrom_10 o m n r2 v3 y3)
  else (
  f_X1_greatestFrom_58 o m zz_fuel v3 v5 (1 : Int64))))
theorem t_X1_greatestFrom_10 {l : Launch} {G : zz_G} (hN : 107 ≤ zz_N G) {o : Nat} (ho : zz_isCurve G o) {m : zz_Mem}  : ∀ (n : Nat) (v3 : Int64) (v5 : Int64) (v7 : Int64), zz_Sim zz_sh l G mX1_greatestFrom 2 zz_vJr (zz_mC m) (f_X1_greatestFrom_10 o m n v3 v5 v7) 10 [(0, .ref (zz_a G o)), (3, .long v3), (5, .long v5), (7, .long v7)] [] m := by
  intro n
  induction n with
  | zero => intro _ _ _; exact zs_none
  | succ n ih =>
    intro v3 v5 v7
    rw [f_X1_greatestFrom_10]
    refine zs_lload dX1_greatestFrom_10 3 rfl ?_
    refine zs_ldc2 (v := (2000000000 : Int64)) dX1_greatestFrom_12 kc_X1_180 ?_
    refine zs_lcmp_gt (tgt := 55) dX1_greatestFrom_15 dX1_greatestFrom_16 (by decide) ?_ ?_
    · refine zs_lconst (v := (1 : Int64)) dX1_greatestFrom_55 rfl ?_
      refine zs_lstore [(7, .long (1 : Int64)), (0, .ref (zz_a G o)), (3, .long v3), (5, .long v5)] dX1_greatestFrom_56 (Nat.le_of_ble_eq_true rfl) rfl ?_
      refine zs_sub [1, 2, 3, 0] rfl ?_
      exact t_X1_greatestFrom_58 hN ho zz_fuel _ _ _
    · refine zs_lload_n dX1_greatestFrom_19 rfl 1 rfl ?_
      refine zs_lconst (v := (0 : Int64)) dX1_greatestFrom_20 rfl ?_
      refine zs_lcmp_le (tgt := 55) dX1_greatestFrom_21 dX1_greatestFrom_22 (by decide) ?_ ?_
      · refine zs_lconst (v := (1 : Int64)) dX1_greatestFrom_55 rfl ?_
        refine zs_lstore [(7, .long (1 : Int64)), (0, .ref (zz_a G o)), (3, .long v3), (5, .long v5)] dX1_greatestFrom_56 (Nat.le_of_ble_eq_true rfl) rfl ?_
        refine zs_sub [1, 2, 3, 0] rfl ?_
        exact t_X1_greatestFrom_58 hN ho zz_fuel _ _ _
      · refine zs_aload_n dX1_greatestFrom_25 rfl 0 rfl ?_
        refine zs_lload_n dX1_greatestFrom_26 rfl 1 rfl ?_
        refine zs_cV_iR (rest := []) (k_X1_holds hN (ho) _ _) dX1_greatestFrom_27 lv_X1_182 ok_X1_holds (zz_rcv_o (ho).1 rfl) (Nat.le_of_ble_eq_true rfl) rfl rfl (Nat.le_of_ble_eq_true rfl) (fun r1 => ?_)
        refine zs_if_ne (tgt := 55) dX1_greatestFrom_30 (by decide) ?_ ?_
        · refine zs_lconst (v := (1 : Int64)) dX1_greatestFrom_55 rfl ?_
          refine zs_lstore [(7, .long (1 : Int64)), (0, .ref (zz_a G o)), (3, .long v3), (5, .long v5)] dX1_greatestFrom_56 (Nat.le_of_ble_eq_true rfl) rfl ?_
          refine zs_sub [1, 2, 3, 0] rfl ?_
          exact t_X1_greatestFrom_58 hN ho zz_fuel _ _ _
        · refine zs_lload_n dX1_greatestFrom_33 rfl 1 rfl ?_
          refine zs_lstore [(5, .long v3), (0, .ref (zz_a G o)), (3, .long v3), (7, .long v7)] dX1_greatestFrom_34 (Nat.le_of_ble_eq_true rfl) rfl ?_
          refine zs_lconst (v := (0 : Int64)) dX1_greatestFrom_36 rfl ?_
          refine zs_lload_n dX1_greatestFrom_37 rfl 2 rfl ?_
          refine zs_lload dX1_greatestFrom_38 3 rfl ?_
          refine zs_lsub dX1_greatestFrom_40 ?_
          refine zs_cS_jR (rest := []) (k_J9_max_f86c9 hN _ _ _) dX1_greatestFrom_41 ls_X1_178 ok_J9_max_f86c9 (Nat.le_of_ble_eq_true rfl) rfl rfl (Nat.le_of_ble_eq_true rfl) (fun r2 => ?_)
          refine zs_lstore_n [(3, .long r2), (5, .long v3), (0, .ref (zz_a G o)), (7, .long v7)] dX1_greatestFrom_44 rfl (Nat.le_of_ble_eq_true rfl) rfl ?_
          refine zs_lload dX1_greatestFrom_45 3 rfl ?_
          refine zs_lload dX1_greatestFrom_47 3 rfl ?_
          refine zs_ladd dX1_greatestFrom_49 ?_
          refine zs_letJ (fun y3 => ?_)
          refine zs_lstore [(7, .long y3), (3, .long r2), (5, .long v3), (0, .ref (zz_a G o))] dX1_greatestFrom_50 (Nat.le_of_ble_eq_true rfl) rfl ?_
          refine zs_goto (tgt := 10) dX1_greatestFrom_52 (by decide) ?_
          refine zs_sub [3, 1, 2, 0] rfl ?_
          exact ih _ _ _
def f_X1_greatestFrom (o : Nat) (m : zz_Mem) (p1 : Int64) : Option Int64 :=
  zz_letJ (p1 + (1 : Int64)) fun y1 =>
  f_X1_greatestFrom_10 o m zz_fuel p1 y1 (1 : Int64)
theorem k_X1_greatestFrom {l : Launch} {G : zz_G} (hN : 107 ≤ zz_N G) {o : Nat} (ho : zz_isCurve G o) : ∀ (p1 : Int64) (m : zz_Mem), zz_Con zz_sh l G mX1_greatestFrom 2 [.ref (zz_a G o), .long p1] zz_vJr (zz_mC m) (f_X1_greatestFrom o m p1) m := by
  intro p1 m
  refine zz_con (lv := [(0, .ref (zz_a G o)), (1, .long p1)]) (by decide +kernel) (Nat.le_of_ble_eq_true rfl) rfl ?_
  unfold f_X1_greatestFrom
  refine zs_lload_n dX1_greatestFrom_0 rfl 1 rfl ?_
  refine zs_lstore_n [(3, .long p1), (0, .ref (zz_a G o)), (1, .long p1)] dX1_greatestFrom_1 rfl (Nat.le_of_ble_eq_true rfl) rfl ?_
  refine zs_lload_n dX1_greatestFrom_2 rfl 2 rfl ?_
  refine zs_lconst (v := (1 : Int64)) dX1_greatestFrom_3 rfl ?_
  refine zs_ladd dX1_greatestFrom_4 ?_
  refine zs_letJ (fun y1 => ?_)
  refine zs_lstore [(5, .long y1), (3, .long p1), (0, .ref (zz_a G o)), (1, .long p1)] dX1_greatestFrom_5 (Nat.le_of_ble_eq_true rfl) rfl ?_
  refine zs_lconst (v := (1 : Int64)) dX1_greatestFrom_7 rfl ?_
  refine zs_lstore [(7, .long (1 : Int64)), (5, .long y1), (3, .long p1), (0, .ref (zz_a G o)), (1, .long p1)] dX1_greatestFrom_8 (Nat.le_of_ble_eq_true rfl) rfl ?_
  refine zs_sub [3, 2, 1, 0] rfl ?_
  exact t_X1_greatestFrom_10 hN ho zz_fuel _ _ _
/-! X1_solve: PillarDesk$Curve.solve(I)V -/
theorem dX1_solve_0 : decode cX1_solve 0 = .ok (.aload_n 0, 1) := by decide +kernel
theorem dX1_solve_1 : decode cX1_solve 1 = .ok (.getfield 15, 3) := by decide +kernel
theorem dX1_solve_4 : decode cX1_solve 4 = .ok (.iconst 0, 1) := by decide +kernel
theorem dX1_solve_5 : decode cX1_solve 5 = .ok (.ldc 89, 2) := by decide +kernel
theorem dX1_solve_7 : decode cX1_solve 7 = .ok (.iastore, 1) := by decide +kernel
theorem dX1_solve_8 : decode cX1_solve 8 = .ok (.iconst 1, 1) := by decide +kernel
theorem dX1_solve_9 : decode cX1_solve 9 = .ok (.iload_n 1, 1) := by decide +kernel
theorem dX1_solve_10 : decode cX1_solve 10 = .ok (.invokestatic 90, 3) := by decide +kernel
theorem dX1_solve_13 : decode cX1_solve 13 = .ok (.istore_n 2, 1) := by decide +kernel
theorem dX1_solve_14 : decode cX1_solve 14 = .ok (.iload_n 2, 1) := by decide +kernel
theorem dX1_solve_15 : decode cX1_solve 15 = .ok (.aload_n 0, 1) := by decide +kernel
theorem dX1_solve_16 : decode cX1_solve 16 = .ok (.getfield 29, 3) := by decide +kernel
theorem dX1_solve_19 : decode cX1_solve 19 = .ok (.getfield 95, 3) := by decide +kernel
theorem dX1_solve_22 : decode cX1_solve 22 = .ok (.if_icmp .ge 125, 3) := by decide +kernel
theorem dX1_solve_25 : decode cX1_solve 25 = .ok (.iload_n 2, 1) := by decide +kernel
theorem dX1_solve_26 : decode cX1_solve 26 = .ok (.bipush 9, 2) := by decide +kernel
theorem dX1_solve_28 : decode cX1_solve 28 = .ok (.if_icmp .ge 119, 3) := by decide +kernel
theorem dX1_solve_31 : decode cX1_solve 31 = .ok (.aload_n 0, 1) := by decide +kernel
theorem dX1_solve_32 : decode cX1_solve 32 = .ok (.aload_n 0, 1) := by decide +kernel
theorem dX1_solve_33 : decode cX1_solve 33 = .ok (.getfield 15, 3) := by decide +kernel
theorem dX1_solve_36 : decode cX1_solve 36 = .ok (.iload_n 2, 1) := by decide +kernel
theorem dX1_solve_37 : decode cX1_solve 37 = .ok (.iconst 1, 1) := by decide +kernel
theorem dX1_solve_38 : decode cX1_solve 38 = .ok (.isub, 1) := by decide +kernel
theorem dX1_solve_39 : decode cX1_solve 39 = .ok (.iaload, 1) := by decide +kernel
theorem dX1_solve_40 : decode cX1_solve 40 = .ok (.i2l, 1) := by decide +kernel
theorem dX1_solve_41 : decode cX1_solve 41 = .ok (.putfield 98, 3) := by decide +kernel
theorem dX1_solve_44 : decode cX1_solve 44 = .ok (.aload_n 0, 1) := by decide +kernel
theorem dX1_solve_45 : decode cX1_solve 45 = .ok (.aload_n 0, 1) := by decide +kernel
theorem dX1_solve_46 : decode cX1_solve 46 = .ok (.getfield 29, 3) := by decide +kernel
theorem dX1_solve_49 : decode cX1_solve 49 = .ok (.getfield 102, 3) := by decide +kernel
theorem dX1_solve_52 : decode cX1_solve 52 = .ok (.iload_n 2, 1) := by decide +kernel
theorem dX1_solve_53 : decode cX1_solve 53 = .ok (.iaload, 1) := by decide +kernel
theorem dX1_solve_54 : decode cX1_solve 54 = .ok (.aload_n 0, 1) := by decide +kernel
theorem dX1_solve_55 : decode cX1_solve 55 = .ok (.getfield 29, 3) := by decide +kernel
theorem dX1_solve_58 : decode cX1_solve 58 = .ok (.getfield 102, 3) := by decide +kernel
theorem dX1_solve_61 : decode cX1_solve 61 = .ok (.iload_n 2, 1) := by decide +kernel
theorem dX1_solve_62 : decode cX1_solve 62 = .ok (.iconst 1, 1) := by decide +kernel
theorem dX1_solve_63 : decode cX1_solve 63 = .ok (.isub, 1) := by decide +kernel
theorem dX1_solve_64 : decode cX1_solve 64 = .ok (.iaload, 1) := by decide +kernel
theorem dX1_solve_65 : decode cX1_solve 65 = .ok (.isub, 1) := by decide +kernel
theorem dX1_solve_66 : decode cX1_solve 66 = .ok (.putfield 105, 3) := by decide +kernel
theorem dX1_solve_69 : decode cX1_solve 69 = .ok (.aload_n 0, 1) := by decide +kernel
theorem dX1_solve_70 : decode cX1_solve 70 = .ok (.iconst 0, 1) := by decide +kernel
theorem dX1_solve_71 : decode cX1_solve 71 = .ok (.putfield 108, 3) := by decide +kernel
theorem dX1_solve_74 : decode cX1_solve 74 = .ok (.aload_n 0, 1) := by decide +kernel
theorem dX1_solve_75 : decode cX1_solve 75 = .ok (.getfield 29, 3) := by decide +kernel
theorem dX1_solve_78 : decode cX1_solve 78 = .ok (.getfield 111, 3) := by decide +kernel
theorem dX1_solve_81 : decode cX1_solve 81 = .ok (.iload_n 2, 1) := by decide +kernel
theorem dX1_solve_82 : decode cX1_solve 82 = .ok (.iaload, 1) := by decide +kernel
theorem dX1_solve_83 : decode cX1_solve 83 = .ok (.istore_n 3, 1) := by decide +kernel
theorem dX1_solve_84 : decode cX1_solve 84 = .ok (.aload_n 0, 1) := by decide +kernel
theorem dX1_solve_85 : decode cX1_solve 85 = .ok (.getfield 25, 3) := by decide +kernel
theorem dX1_solve_88 : decode cX1_solve 88 = .ok (.getfield 76, 3) := by decide +kernel
theorem dX1_solve_91 : decode cX1_solve 91 = .ok (.iload_n 3, 1) := by decide +kernel
theorem dX1_solve_92 : decode cX1_solve 92 = .ok (.iaload, 1) := by decide +kernel
theorem dX1_solve_93 : decode cX1_solve 93 = .ok (.iconst 2, 1) := by decide +kernel
theorem dX1_solve_94 : decode cX1_solve 94 = .ok (.if_icmp .ne 12, 3) := by decide +kernel
theorem dX1_solve_97 : decode cX1_solve 97 = .ok (.aload_n 0, 1) := by decide +kernel
theorem dX1_solve_98 : decode cX1_solve 98 = .ok (.iload_n 3, 1) := by decide +kernel
theorem dX1_solve_99 : decode cX1_solve 99 = .ok (.iload_n 2, 1) := by decide +kernel
theorem dX1_solve_100 : decode cX1_solve 100 = .ok (.invokevirtual 114, 3) := by decide +kernel
theorem dX1_solve_103 : decode cX1_solve 103 = .ok (.goto 9, 3) := by decide +kernel
theorem dX1_solve_106 : decode cX1_solve 106 = .ok (.aload_n 0, 1) := by decide +kernel
theorem dX1_solve_107 : decode cX1_solve 107 = .ok (.iload_n 3, 1) := by decide +kernel
theorem dX1_solve_108 : decode cX1_solve 108 = .ok (.iload_n 2, 1) := by decide +kernel
theorem dX1_solve_109 : decode cX1_solve 109 = .ok (.invokevirtual 118, 3) := by decide +kernel
theorem dX1_solve_112 : decode cX1_solve 112 = .ok (.aload_n 0, 1) := by decide +kernel
theorem dX1_solve_113 : decode cX1_solve 113 = .ok (.getfield 15, 3) := by decide +kernel
theorem dX1_solve_116 : decode cX1_solve 116 = .ok (.iload_n 2, 1) := by decide +kernel
theorem dX1_solve_117 : decode cX1_solve 117 = .ok (.aload_n 0, 1) := by decide +kernel
theorem dX1_solve_118 : decode cX1_solve 118 = .ok (.getfield 108, 3) := by decide +kernel
theorem dX1_solve_121 : decode cX1_solve 121 = .ok (.ifCond .ne 10, 3) := by decide +kernel
theorem dX1_solve_124 : decode cX1_solve 124 = .ok (.aload_n 0, 1) := by decide +kernel
theorem dX1_solve_125 : decode cX1_solve 125 = .ok (.invokevirtual 121, 3) := by decide +kernel
theorem dX1_solve_128 : decode cX1_solve 128 = .ok (.goto 11, 3) := by decide +kernel
theorem dX1_solve_131 : decode cX1_solve 131 = .ok (.aload_n 0, 1) := by decide +kernel
theorem dX1_solve_132 : decode cX1_solve 132 = .ok (.aload_n 0, 1) := by decide +kernel
theorem dX1_solve_133 : decode cX1_solve 133 = .ok (.invokevirtual 125, 3) := by decide +kernel
theorem dX1_solve_136 : decode cX1_solve 136 = .ok (.invokevirtual 128, 3) := by decide +kernel
theorem dX1_solve_139 : decode cX1_solve 139 = .ok (.l2i, 1) := by decide +kernel
theorem dX1_solve_140 : decode cX1_solve 140 = .ok (.iastore, 1) := by decide +kernel
theorem dX1_solve_141 : decode cX1_solve 141 = .ok (.iinc 2 1, 3) := by decide +kernel
theorem dX1_solve_144 : decode cX1_solve 144 = .ok (.goto (-130), 3) := by decide +kernel
theorem dX1_solve_147 : decode cX1_solve 147 = .ok (.return_, 1) := by decide +kernel
def f_X1_solve_139 (o : Nat) (k14 : Int32 → zz_Mem → Option zz_Mem) (v2 : Int32) (s0 : Int64) (s1 : Int32) (m : zz_Mem) : Option zz_Mem :=
  zz_ix s1 9 <| zz_letM (zz_setI m (o + 2) s1.toNatClampNeg s0.toInt32) fun m1 =>
  zz_letI (v2 + (1 : Int32)) fun x2 =>
  k14 x2 m1
theorem t_X1_solve_139 {l : Launch} {G : zz_G} (hN : 107 ≤ zz_N G) {o : Nat} (ho : zz_isCurve G o) {k14 : Int32 → zz_Mem → Option zz_Mem} (hk14 : ∀ (v2 : Int32) (m : zz_Mem), zz_Sim zz_sh l G mX1_solve 4 zz_vV zz_mV (k14 v2 m) 14 [(0, .ref (zz_a G o)), (2, .int v2)] [] m) : ∀ (v2 : Int32) (s0 : Int64) (s1 : Int32) (m : zz_Mem), zz_Sim zz_sh l G mX1_solve 4 zz_vV zz_mV (f_X1_solve_139 o k14 v2 s0 s1 m) 139 [(0, .ref (zz_a G o)), (2, .int v2)] [.long s0, .int s1, .ref (zz_a G (o + 2))] m := by
  intro v2 s0 s1 m
  unfold f_X1_solve_139
  refine zs_l2i dX1_solve_139 ?_
  refine zs_iastG dX1_solve_140 (ho).2.2.1 (fun m1 => ?_)
  refine zs_iinc (fun y => [(2, .int y), (0, .ref (zz_a G o))]) dX1_solve_141 1 rfl ci_1 (Nat.le_of_ble_eq_true rfl) (fun _ => rfl) (fun x2 => ?_)
  refine zs_goto (tgt := 14) dX1_solve_144 (by decide) ?_
  refine zs_sub [1, 0] rfl ?_
  exact hk14 _ _
def f_X1_solve_112 (o : Nat) (k14 : Int32 → zz_Mem → Option zz_Mem) (v2 : Int32) (m : zz_Mem) : Option zz_Mem :=
  if (m.1 o 6) = 0 then (
  zz_bndR (f_X1_greatestAtOnce o m) fun r3 =>
  f_X1_solve_139 o k14 v2 r3 v2 m)
  else (
  zz_bndR (f_X1_guess o m) fun r1 =>
  zz_bndR (f_X1_greatestFrom o m r1) fun r2 =>
  f_X1_solve_139 o k14 v2 r2 v2 m)
theorem t_X1_solve_112 {l : Launch} {G : zz_G} (hN : 107 ≤ zz_N G) {o : Nat} (ho : zz_isCurve G o) {k14 : Int32 → zz_Mem → Option zz_Mem} (hk14 : ∀ (v2 : Int32) (m : zz_Mem), zz_Sim zz_sh l G mX1_solve 4 zz_vV zz_mV (k14 v2 m) 14 [(0, .ref (zz_a G o)), (2, .int v2)] [] m) : ∀ (v2 : Int32) (m : zz_Mem), zz_Sim zz_sh l G mX1_solve 4 zz_vV zz_mV (f_X1_solve_112 o k14 v2 m) 112 [(0, .ref (zz_a G o)), (2, .int v2)] [] m := by
  intro v2 m
  unfold f_X1_solve_112
  refine zs_aload_n dX1_solve_112 rfl 0 rfl ?_
  refine zs_getR fl_X1_15 dX1_solve_113 (ho).1 rfl ?_
  refine zs_iload_n dX1_solve_116 rfl 1 rfl ?_
  refine zs_aload_n dX1_solve_117 rfl 0 rfl ?_
  refine zs_getI fl_X1_108 dX1_solve_118 (ho).1 rfl ?_
  refine zs_if_ne (tgt := 131) dX1_solve_121 (by decide) ?_ ?_
  · refine zs_aload_n dX1_solve_131 rfl 0 rfl ?_
    refine zs_aload_n dX1_solve_132 rfl 0 rfl ?_
    refine zs_cV_jR (rest := [.ref (zz_a G o), .int v2, .ref (zz_a G (o + 2))]) (k_X1_guess hN (ho)  _) dX1_solve_133 lv_X1_125 ok_X1_guess (zz_rcv_o (ho).1 rfl) (Nat.le_of_ble_eq_true rfl) rfl rfl (Nat.le_of_ble_eq_true rfl) (fun r1 => ?_)
    refine zs_cV_jR (rest := [.int v2, .ref (zz_a G (o + 2))]) (k_X1_greatestFrom hN (ho) _ _) dX1_solve_136 lv_X1_128 ok_X1_greatestFrom (zz_rcv_o (ho).1 rfl) (Nat.le_of_ble_eq_true rfl) rfl rfl (Nat.le_of_ble_eq_true rfl) (fun r2 => ?_)
    exact t_X1_solve_139 hN ho hk14 _ _ _ _
  · refine zs_aload_n dX1_solve_124 rfl 0 rfl ?_
    refine zs_cV_jR (rest := [.int v2, .ref (zz_a G (o + 2))]) (k_X1_greatestAtOnce hN (ho)  _) dX1_solve_125 lv_X1_121 ok_X1_greatestAtOnce (zz_rcv_o (ho).1 rfl) (Nat.le_of_ble_eq_true rfl) rfl rfl (Nat.le_of_ble_eq_true rfl) (fun r3 => ?_)
    refine zs_goto (tgt := 139) dX1_solve_128 (by decide) ?_
    exact t_X1_solve_139 hN ho hk14 _ _ _ _
def f_X1_solve_14 (o : Nat)  : Nat → Int32 → zz_Mem → Option zz_Mem
  | 0, _, _ => none
  | n + 1, v2, m =>
  if (m.1 72 8) ≤ v2 then (
  some m)
  else (
  if (9 : Int32) ≤ v2 then (
  some m)
  else (
  zz_ix (v2 - (1 : Int32)) 9 <|
  zz_letM (zz_setJ m o 9 ((m.1 (o + 2) (v2 - (1 : Int32)).toNatClampNeg).toInt64)) fun m1 =>
  zz_ix v2 9 <|
  zz_ix (v2 - (1 : Int32)) 9 <|
  zz_letM (zz_setI m1 o 10 ((m1.1 79 v2.toNatClampNeg) - (m1.1 79 (v2 - (1 : Int32)).toNatClampNeg))) fun m2 =>
  zz_letM (zz_setI m2 o 6 (0 : Int32)) fun m3 =>
  zz_ix v2 9 <|
  zz_letI (m3.1 80 v2.toNatClampNeg) fun x4 =>
  zz_ix x4 8 <|
  if (m3.1 4 x4.toNatClampNeg) = (2 : Int32) then (
  zz_bndR (f_X1_askSwap o x4 v2 m3) fun m6 =>
  f_X1_solve_112 o (f_X1_solve_14 o n) v2 m6)
  else (
  zz_bndR (f_X1_askLoan o x4 v2 m3) fun m5 =>
  f_X1_solve_112 o (f_X1_solve_14 o n) v2 m5)))
theorem t_X1_solve_14 {l : Launch} {G : zz_G} (hN : 107 ≤ zz_N G) {o : Nat} (ho : zz_isCurve G o)  : ∀ (n : Nat) (v2 : Int32) (m : zz_Mem), zz_Sim zz_sh l G mX1_solve 4 zz_vV zz_mV (f_X1_solve_14 o n v2 m) 14 [(0, .ref (zz_a G o)), (2, .int v2)] [] m := by
  intro n
  induction n with
  | zero => intro _ _; exact zs_none
  | succ n ih =>
    intro v2 m
    rw [f_X1_solve_14]
    refine zs_iload_n dX1_solve_14 rfl 1 rfl ?_
    refine zs_aload_n dX1_solve_15 rfl 0 rfl ?_
    refine zs_getR fl_X1_29 dX1_solve_16 (ho).1 rfl ?_
    refine zs_getI fl_X1_95 dX1_solve_19 (sh_72 hN) rfl ?_
    refine zs_icmp_ge (tgt := 147) dX1_solve_22 (by decide) ?_ ?_
    · exact zs_vret dX1_solve_147 rfl rfl rfl
    · refine zs_iload_n dX1_solve_25 rfl 1 rfl ?_
      refine zs_bipush (v := (9 : Int32)) dX1_solve_26 cb_9 ?_
      refine zs_icmp_ge (tgt := 147) dX1_solve_28 (by decide) ?_ ?_
      · exact zs_vret dX1_solve_147 rfl rfl rfl
      · refine zs_aload_n dX1_solve_31 rfl 0 rfl ?_
        refine zs_aload_n dX1_solve_32 rfl 0 rfl ?_
        refine zs_getR fl_X1_15 dX1_solve_33 (ho).1 rfl ?_
        refine zs_iload_n dX1_solve_36 rfl 1 rfl ?_
        refine zs_iconst (v := (1 : Int32)) dX1_solve_37 ci_1 ?_
        refine zs_isub dX1_solve_38 ?_
        refine zs_ialdG dX1_solve_39 (ho).2.2.1 ?_
        refine zs_i2l dX1_solve_40 ?_
        refine zs_putJ fl_X1_98 dX1_solve_41 (ho).1 rfl ⟨rfl, rfl⟩ (fun m1 => ?_)
        refine zs_aload_n dX1_solve_44 rfl 0 rfl ?_
        refine zs_aload_n dX1_solve_45 rfl 0 rfl ?_
        refine zs_getR fl_X1_29 dX1_solve_46 (ho).1 rfl ?_
        refine zs_getR fl_X1_102 dX1_solve_49 (sh_72 hN) rfl ?_
        refine zs_iload_n dX1_solve_52 rfl 1 rfl ?_
        refine zs_ialdG dX1_solve_53 (sh_79 hN) ?_
        refine zs_aload_n dX1_solve_54 rfl 0 rfl ?_
        refine zs_getR fl_X1_29 dX1_solve_55 (ho).1 rfl ?_
        refine zs_getR fl_X1_102 dX1_solve_58 (sh_72 hN) rfl ?_
        refine zs_iload_n dX1_solve_61 rfl 1 rfl ?_
        refine zs_iconst (v := (1 : Int32)) dX1_solve_62 ci_1 ?_
        refine zs_isub dX1_solve_63 ?_
        refine zs_ialdG dX1_solve_64 (sh_79 hN) ?_
        refine zs_isub dX1_solve_65 ?_
        refine zs_putI fl_X1_105 dX1_solve_66 (ho).1 rfl ⟨rfl, rfl⟩ (fun m2 => ?_)
        refine zs_aload_n dX1_solve_69 rfl 0 rfl ?_
        refine zs_iconst (v := (0 : Int32)) dX1_solve_70 ci_0 ?_
        refine zs_putI fl_X1_108 dX1_solve_71 (ho).1 rfl ⟨rfl, rfl⟩ (fun m3 => ?_)
        refine zs_aload_n dX1_solve_74 rfl 0 rfl ?_
        refine zs_getR fl_X1_29 dX1_solve_75 (ho).1 rfl ?_
        refine zs_getR fl_X1_111 dX1_solve_78 (sh_72 hN) rfl ?_
        refine zs_iload_n dX1_solve_81 rfl 1 rfl ?_
        refine zs_ialdG dX1_solve_82 (sh_80 hN) ?_
        refine zs_letI (fun x4 => ?_)
        refine zs_istore_n [(3, .int x4), (0, .ref (zz_a G o)), (2, .int v2)] dX1_solve_83 rfl (Nat.le_of_ble_eq_true rfl) rfl ?_
        refine zs_aload_n dX1_solve_84 rfl 1 rfl ?_
        refine zs_getR fl_X1_25 dX1_solve_85 (ho).1 rfl ?_
        refine zs_getR fl_X1_76 dX1_solve_88 (sh_2 hN) rfl ?_
        refine zs_iload_n dX1_solve_91 rfl 0 rfl ?_
        refine zs_ialdG dX1_solve_92 (sh_4 hN) ?_
        refine zs_iconst (v := (2 : Int32)) dX1_solve_93 ci_2 ?_
        refine zs_icmp_ne (tgt := 106) dX1_solve_94 (by decide) ?_ ?_
        · refine zs_aload_n dX1_solve_106 rfl 1 rfl ?_
          refine zs_iload_n dX1_solve_107 rfl 0 rfl ?_
          refine zs_iload_n dX1_solve_108 rfl 2 rfl ?_
          refine zs_cV_vW (rest := []) (k_X1_askLoan hN (ho) _ _ _) dX1_solve_109 lv_X1_118 ok_X1_askLoan (zz_rcv_o (ho).1 rfl) (Nat.le_of_ble_eq_true rfl) rfl rfl (Nat.le_of_ble_eq_true rfl) (fun m5 => ?_)
          refine zs_sub [1, 2] rfl ?_
          exact t_X1_solve_112 hN ho ih _ _
        · refine zs_aload_n dX1_solve_97 rfl 1 rfl ?_
          refine zs_iload_n dX1_solve_98 rfl 0 rfl ?_
          refine zs_iload_n dX1_solve_99 rfl 2 rfl ?_
          refine zs_cV_vW (rest := []) (k_X1_askSwap hN (ho) _ _ _) dX1_solve_100 lv_X1_114 ok_X1_askSwap (zz_rcv_o (ho).1 rfl) (Nat.le_of_ble_eq_true rfl) rfl rfl (Nat.le_of_ble_eq_true rfl) (fun m6 => ?_)
          refine zs_goto (tgt := 112) dX1_solve_103 (by decide) ?_
          refine zs_sub [1, 2] rfl ?_
          exact t_X1_solve_112 hN ho ih _ _
def f_X1_solve (o : Nat) (p1 : Int32) (m : zz_Mem) : Option zz_Mem :=
  zz_letM (zz_setI m (o + 2) 0 (1000000000 : Int32)) fun m1 =>
  zz_bndR (f_J9_max_7cf53 (1 : Int32) p1) fun r2 =>
  f_X1_solve_14 o zz_fuel r2 m1
theorem k_X1_solve {l : Launch} {G : zz_G} (hN : 107 ≤ zz_N G) {o : Nat} (ho : zz_isCurve G o) : ∀ (p1 : Int32) (m : zz_Mem), zz_Con zz_sh l G mX1_solve 4 [.ref (zz_a G o), .int p1] zz_vV zz_mV (f_X1_solve o p1 m) m := by
  intro p1 m
  refine zz_con (lv := [(0, .ref (zz_a G o)), (1, .int p1)]) (by decide +kernel) (Nat.le_of_ble_eq_true rfl) rfl ?_
  unfold f_X1_solve
  refine zs_aload_n dX1_solve_0 rfl 0 rfl ?_
  refine zs_getR fl_X1_15 dX1_solve_1 (ho).1 rfl ?_
  refine zs_iconst (v := (0 : Int32)) dX1_solve_4 ci_0 ?_
  refine zs_ldc (v := (1000000000 : Int32)) dX1_solve_5 kc_X1_89 ?_
  refine zs_iastC dX1_solve_7 (ho).2.2.1 vin_0_9 clp_0 (fun m1 => ?_)
  refine zs_iconst (v := (1 : Int32)) dX1_solve_8 ci_1 ?_
  refine zs_iload_n dX1_solve_9 rfl 1 rfl ?_
  refine zs_cS_iR (rest := []) (k_J9_max_7cf53 hN _ _ _) dX1_solve_10 ls_X1_90 ok_J9_max_7cf53 (Nat.le_of_ble_eq_true rfl) rfl rfl (Nat.le_of_ble_eq_true rfl) (fun r2 => ?_)
  refine zs_istore_n [(2, .int r2), (0, .ref (zz_a G o)), (1, .int p1)] dX1_solve_13 rfl (Nat.le_of_ble_eq_true rfl) rfl ?_
  refine zs_sub [1, 0] rfl ?_
  exact t_X1_solve_14 hN ho zz_fuel _ _
/-! X1_lastFactor: PillarDesk$Curve.lastFactor()I -/
theorem dX1_lastFactor_0 : decode cX1_lastFactor 0 = .ok (.aload_n 0, 1) := by decide +kernel
theorem dX1_lastFactor_1 : decode cX1_lastFactor 1 = .ok (.getfield 15, 3) := by decide +kernel
theorem dX1_lastFactor_4 : decode cX1_lastFactor 4 = .ok (.aload_n 0, 1) := by decide +kernel
theorem dX1_lastFactor_5 : decode cX1_lastFactor 5 = .ok (.getfield 29, 3) := by decide +kernel
theorem dX1_lastFactor_8 : decode cX1_lastFactor 8 = .ok (.getfield 95, 3) := by decide +kernel
theorem dX1_lastFactor_11 : decode cX1_lastFactor 11 = .ok (.iconst 1, 1) := by decide +kernel
theorem dX1_lastFactor_12 : decode cX1_lastFactor 12 = .ok (.isub, 1) := by decide +kernel
theorem dX1_lastFactor_13 : decode cX1_lastFactor 13 = .ok (.iaload, 1) := by decide +kernel
theorem dX1_lastFactor_14 : decode cX1_lastFactor 14 = .ok (.ireturn, 1) := by decide +kernel
def f_X1_lastFactor (o : Nat) (m : zz_Mem)  : Option Int32 :=
  zz_ix ((m.1 72 8) - (1 : Int32)) 9 <|
  some (m.1 (o + 2) ((m.1 72 8) - (1 : Int32)).toNatClampNeg)
theorem k_X1_lastFactor {l : Launch} {G : zz_G} (hN : 107 ≤ zz_N G) {o : Nat} (ho : zz_isCurve G o) : ∀ (m : zz_Mem), zz_Con zz_sh l G mX1_lastFactor 0 [.ref (zz_a G o)] zz_vIr (zz_mC m) (f_X1_lastFactor o m) m := by
  intro m
  refine zz_con (lv := [(0, .ref (zz_a G o))]) (by decide +kernel) (Nat.le_of_ble_eq_true rfl) rfl ?_
  unfold f_X1_lastFactor
  refine zs_aload_n dX1_lastFactor_0 rfl 0 rfl ?_
  refine zs_getR fl_X1_15 dX1_lastFactor_1 (ho).1 rfl ?_
  refine zs_aload_n dX1_lastFactor_4 rfl 0 rfl ?_
  refine zs_getR fl_X1_29 dX1_lastFactor_5 (ho).1 rfl ?_
  refine zs_getI fl_X1_95 dX1_lastFactor_8 (sh_72 hN) rfl ?_
  refine zs_iconst (v := (1 : Int32)) dX1_lastFactor_11 ci_1 ?_
  refine zs_isub dX1_lastFactor_12 ?_
  refine zs_ialdG dX1_lastFactor_13 (ho).2.2.1 ?_
  exact zs_iret dX1_lastFactor_14 rfl rfl rfl
/-! X1_rateBetween: PillarDesk$Curve.rateBetween(II)I -/
theorem dX1_rateBetween_0 : decode cX1_rateBetween 0 = .ok (.aload_n 0, 1) := by decide +kernel
theorem dX1_rateBetween_1 : decode cX1_rateBetween 1 = .ok (.iload_n 2, 1) := by decide +kernel
theorem dX1_rateBetween_2 : decode cX1_rateBetween 2 = .ok (.invokevirtual 160, 3) := by decide +kernel
theorem dX1_rateBetween_5 : decode cX1_rateBetween 5 = .ok (.i2l, 1) := by decide +kernel
theorem dX1_rateBetween_6 : decode cX1_rateBetween 6 = .ok (.lstore_n 3, 1) := by decide +kernel
theorem dX1_rateBetween_7 : decode cX1_rateBetween 7 = .ok (.lload_n 3, 1) := by decide +kernel
theorem dX1_rateBetween_8 : decode cX1_rateBetween 8 = .ok (.iload_n 2, 1) := by decide +kernel
theorem dX1_rateBetween_9 : decode cX1_rateBetween 9 = .ok (.iload_n 1, 1) := by decide +kernel
theorem dX1_rateBetween_10 : decode cX1_rateBetween 10 = .ok (.isub, 1) := by decide +kernel
theorem dX1_rateBetween_11 : decode cX1_rateBetween 11 = .ok (.i2l, 1) := by decide +kernel
theorem dX1_rateBetween_12 : decode cX1_rateBetween 12 = .ok (.lmul, 1) := by decide +kernel
theorem dX1_rateBetween_13 : decode cX1_rateBetween 13 = .ok (.lstore 5, 2) := by decide +kernel
theorem dX1_rateBetween_15 : decode cX1_rateBetween 15 = .ok (.lload 5, 2) := by decide +kernel
theorem dX1_rateBetween_17 : decode cX1_rateBetween 17 = .ok (.lconst 0, 1) := by decide +kernel
theorem dX1_rateBetween_18 : decode cX1_rateBetween 18 = .ok (.lcmp, 1) := by decide +kernel
theorem dX1_rateBetween_19 : decode cX1_rateBetween 19 = .ok (.ifCond .le 24, 3) := by decide +kernel
theorem dX1_rateBetween_22 : decode cX1_rateBetween 22 = .ok (.aload_n 0, 1) := by decide +kernel
theorem dX1_rateBetween_23 : decode cX1_rateBetween 23 = .ok (.iload_n 1, 1) := by decide +kernel
theorem dX1_rateBetween_24 : decode cX1_rateBetween 24 = .ok (.invokevirtual 160, 3) := by decide +kernel
theorem dX1_rateBetween_27 : decode cX1_rateBetween 27 = .ok (.i2l, 1) := by decide +kernel
theorem dX1_rateBetween_28 : decode cX1_rateBetween 28 = .ok (.lload_n 3, 1) := by decide +kernel
theorem dX1_rateBetween_29 : decode cX1_rateBetween 29 = .ok (.lsub, 1) := by decide +kernel
theorem dX1_rateBetween_30 : decode cX1_rateBetween 30 = .ok (.ldc2_w 135, 3) := by decide +kernel
theorem dX1_rateBetween_33 : decode cX1_rateBetween 33 = .ok (.lmul, 1) := by decide +kernel
theorem dX1_rateBetween_34 : decode cX1_rateBetween 34 = .ok (.lload 5, 2) := by decide +kernel
theorem dX1_rateBetween_36 : decode cX1_rateBetween 36 = .ok (.invokestatic 166, 3) := by decide +kernel
theorem dX1_rateBetween_39 : decode cX1_rateBetween 39 = .ok (.l2i, 1) := by decide +kernel
theorem dX1_rateBetween_40 : decode cX1_rateBetween 40 = .ok (.goto 4, 3) := by decide +kernel
theorem dX1_rateBetween_43 : decode cX1_rateBetween 43 = .ok (.iconst 0, 1) := by decide +kernel
theorem dX1_rateBetween_44 : decode cX1_rateBetween 44 = .ok (.ireturn, 1) := by decide +kernel
def f_X1_rateBetween (o : Nat) (m : zz_Mem) (p1 : Int32) (p2 : Int32) : Option Int32 :=
  zz_bndR (f_X1_factorAt o m p2) fun r1 =>
  zz_letJ r1.toInt64 fun y2 =>
  zz_letJ (y2 * ((p2 - p1).toInt64)) fun y3 =>
  if y3 ≤ (0 : Int64) then (
  some (0 : Int32))
  else (
  zz_bndR (f_X1_factorAt o m p1) fun r4 =>
  zz_bndR (f_J9_floorDiv_f86c9 ((r4.toInt64 - y2) * (3600000 : Int64)) y3) fun r5 =>
  some r5.toInt32)
theorem k_X1_rateBetween {l : Launch} {G : zz_G} (hN : 107 ≤ zz_N G) {o : Nat} (ho : zz_isCurve G o) : ∀ (p1 : Int32) (p2 : Int32) (m : zz_Mem), zz_Con zz_sh l G mX1_rateBetween 2 [.ref (zz_a G o), .int p1, .int p2] zz_vIr (zz_mC m) (f_X1_rateBetween o m p1 p2) m := by
  intro p1 p2 m
  refine zz_con (lv := [(0, .ref (zz_a G o)), (1, .int p1), (2, .int p2)]) (by decide +kernel) (Nat.le_of_ble_eq_true rfl) rfl ?_
  unfold f_X1_rateBetween
  refine zs_aload_n dX1_rateBetween_0 rfl 0 rfl ?_
  refine zs_iload_n dX1_rateBetween_1 rfl 2 rfl ?_
  refine zs_cV_iR (rest := []) (k_X1_factorAt hN (ho) _ _) dX1_rateBetween_2 lv_X1_160 ok_X1_factorAt (zz_rcv_o (ho).1 rfl) (Nat.le_of_ble_eq_true rfl) rfl rfl (Nat.le_of_ble_eq_true rfl) (fun r1 => ?_)
  refine zs_i2l dX1_rateBetween_5 ?_
  refine zs_letJ (fun y2 => ?_)
  refine zs_lstore_n [(3, .long y2), (0, .ref (zz_a G o)), (1, .int p1), (2, .int p2)] dX1_rateBetween_6 rfl (Nat.le_of_ble_eq_true rfl) rfl ?_
  refine zs_lload_n dX1_rateBetween_7 rfl 0 rfl ?_
  refine zs_iload_n dX1_rateBetween_8 rfl 3 rfl ?_
  refine zs_iload_n dX1_rateBetween_9 rfl 2 rfl ?_
  refine zs_isub dX1_rateBetween_10 ?_
  refine zs_i2l dX1_rateBetween_11 ?_
  refine zs_lmul dX1_rateBetween_12 ?_
  refine zs_letJ (fun y3 => ?_)
  refine zs_lstore [(5, .long y3), (3, .long y2), (0, .ref (zz_a G o)), (1, .int p1), (2, .int p2)] dX1_rateBetween_13 (Nat.le_of_ble_eq_true rfl) rfl ?_
  refine zs_lload dX1_rateBetween_15 0 rfl ?_
  refine zs_lconst (v := (0 : Int64)) dX1_rateBetween_17 rfl ?_
  refine zs_lcmp_le (tgt := 43) dX1_rateBetween_18 dX1_rateBetween_19 (by decide) ?_ ?_
  · refine zs_iconst (v := (0 : Int32)) dX1_rateBetween_43 ci_0 ?_
    exact zs_iret dX1_rateBetween_44 rfl rfl rfl
  · refine zs_aload_n dX1_rateBetween_22 rfl 2 rfl ?_
    refine zs_iload_n dX1_rateBetween_23 rfl 3 rfl ?_
    refine zs_cV_iR (rest := []) (k_X1_factorAt hN (ho) _ _) dX1_rateBetween_24 lv_X1_160 ok_X1_factorAt (zz_rcv_o (ho).1 rfl) (Nat.le_of_ble_eq_true rfl) rfl rfl (Nat.le_of_ble_eq_true rfl) (fun r4 => ?_)
    refine zs_i2l dX1_rateBetween_27 ?_
    refine zs_lload_n dX1_rateBetween_28 rfl 1 rfl ?_
    refine zs_lsub dX1_rateBetween_29 ?_
    refine zs_ldc2 (v := (3600000 : Int64)) dX1_rateBetween_30 kc_X1_135 ?_
    refine zs_lmul dX1_rateBetween_33 ?_
    refine zs_lload dX1_rateBetween_34 0 rfl ?_
    refine zs_cS_jR (rest := []) (k_J9_floorDiv_f86c9 hN _ _ _) dX1_rateBetween_36 ls_X1_166 ok_J9_floorDiv_f86c9 (Nat.le_of_ble_eq_true rfl) rfl rfl (Nat.le_of_ble_eq_true rfl) (fun r5 => ?_)
    refine zs_l2i dX1_rateBetween_39 ?_
    refine zs_goto (tgt := 44) dX1_rateBetween_40 (by decide) ?_
    exact zs_iret dX1_rateBetween_44 rfl rfl rfl
/-! X1_swapRate: PillarDesk$Curve.swapRate(I)I -/
theorem dX1_swapRate_0 : decode cX1_swapRate 0 = .ok (.lconst 0, 1) := by decide +kernel
theorem dX1_swapRate_1 : decode cX1_swapRate 1 = .ok (.lstore_n 2, 1) := by decide +kernel
theorem dX1_swapRate_2 : decode cX1_swapRate 2 = .ok (.iconst 0, 1) := by decide +kernel
theorem dX1_swapRate_3 : decode cX1_swapRate 3 = .ok (.istore 4, 2) := by decide +kernel
theorem dX1_swapRate_5 : decode cX1_swapRate 5 = .ok (.iload 4, 2) := by decide +kernel
theorem dX1_swapRate_7 : decode cX1_swapRate 7 = .ok (.aload_n 0, 1) := by decide +kernel
theorem dX1_swapRate_8 : decode cX1_swapRate 8 = .ok (.getfield 29, 3) := by decide +kernel
theorem dX1_swapRate_11 : decode cX1_swapRate 11 = .ok (.getfield 151, 3) := by decide +kernel
theorem dX1_swapRate_14 : decode cX1_swapRate 14 = .ok (.iload_n 1, 1) := by decide +kernel
theorem dX1_swapRate_15 : decode cX1_swapRate 15 = .ok (.iaload, 1) := by decide +kernel
theorem dX1_swapRate_16 : decode cX1_swapRate 16 = .ok (.if_icmp .ge 39, 3) := by decide +kernel
theorem dX1_swapRate_19 : decode cX1_swapRate 19 = .ok (.lload_n 2, 1) := by decide +kernel
theorem dX1_swapRate_20 : decode cX1_swapRate 20 = .ok (.aload_n 0, 1) := by decide +kernel
theorem dX1_swapRate_21 : decode cX1_swapRate 21 = .ok (.getfield 29, 3) := by decide +kernel
theorem dX1_swapRate_24 : decode cX1_swapRate 24 = .ok (.iload_n 1, 1) := by decide +kernel
theorem dX1_swapRate_25 : decode cX1_swapRate 25 = .ok (.iload 4, 2) := by decide +kernel
theorem dX1_swapRate_27 : decode cX1_swapRate 27 = .ok (.invokevirtual 154, 3) := by decide +kernel
theorem dX1_swapRate_30 : decode cX1_swapRate 30 = .ok (.i2l, 1) := by decide +kernel
theorem dX1_swapRate_31 : decode cX1_swapRate 31 = .ok (.aload_n 0, 1) := by decide +kernel
theorem dX1_swapRate_32 : decode cX1_swapRate 32 = .ok (.aload_n 0, 1) := by decide +kernel
theorem dX1_swapRate_33 : decode cX1_swapRate 33 = .ok (.getfield 29, 3) := by decide +kernel
theorem dX1_swapRate_36 : decode cX1_swapRate 36 = .ok (.iload_n 1, 1) := by decide +kernel
theorem dX1_swapRate_37 : decode cX1_swapRate 37 = .ok (.iload 4, 2) := by decide +kernel
theorem dX1_swapRate_39 : decode cX1_swapRate 39 = .ok (.invokevirtual 157, 3) := by decide +kernel
theorem dX1_swapRate_42 : decode cX1_swapRate 42 = .ok (.invokevirtual 160, 3) := by decide +kernel
theorem dX1_swapRate_45 : decode cX1_swapRate 45 = .ok (.i2l, 1) := by decide +kernel
theorem dX1_swapRate_46 : decode cX1_swapRate 46 = .ok (.lmul, 1) := by decide +kernel
theorem dX1_swapRate_47 : decode cX1_swapRate 47 = .ok (.ladd, 1) := by decide +kernel
theorem dX1_swapRate_48 : decode cX1_swapRate 48 = .ok (.lstore_n 2, 1) := by decide +kernel
theorem dX1_swapRate_49 : decode cX1_swapRate 49 = .ok (.iinc 4 1, 3) := by decide +kernel
theorem dX1_swapRate_52 : decode cX1_swapRate 52 = .ok (.goto (-47), 3) := by decide +kernel
theorem dX1_swapRate_55 : decode cX1_swapRate 55 = .ok (.ldc2_w 173, 3) := by decide +kernel
theorem dX1_swapRate_58 : decode cX1_swapRate 58 = .ok (.aload_n 0, 1) := by decide +kernel
theorem dX1_swapRate_59 : decode cX1_swapRate 59 = .ok (.aload_n 0, 1) := by decide +kernel
theorem dX1_swapRate_60 : decode cX1_swapRate 60 = .ok (.getfield 29, 3) := by decide +kernel
theorem dX1_swapRate_63 : decode cX1_swapRate 63 = .ok (.getfield 193, 3) := by decide +kernel
theorem dX1_swapRate_66 : decode cX1_swapRate 66 = .ok (.iload_n 1, 1) := by decide +kernel
theorem dX1_swapRate_67 : decode cX1_swapRate 67 = .ok (.iaload, 1) := by decide +kernel
theorem dX1_swapRate_68 : decode cX1_swapRate 68 = .ok (.invokevirtual 160, 3) := by decide +kernel
theorem dX1_swapRate_71 : decode cX1_swapRate 71 = .ok (.i2l, 1) := by decide +kernel
theorem dX1_swapRate_72 : decode cX1_swapRate 72 = .ok (.lsub, 1) := by decide +kernel
theorem dX1_swapRate_73 : decode cX1_swapRate 73 = .ok (.ldc2_w 135, 3) := by decide +kernel
theorem dX1_swapRate_76 : decode cX1_swapRate 76 = .ok (.lmul, 1) := by decide +kernel
theorem dX1_swapRate_77 : decode cX1_swapRate 77 = .ok (.lstore 4, 2) := by decide +kernel
theorem dX1_swapRate_79 : decode cX1_swapRate 79 = .ok (.lload_n 2, 1) := by decide +kernel
theorem dX1_swapRate_80 : decode cX1_swapRate 80 = .ok (.lconst 0, 1) := by decide +kernel
theorem dX1_swapRate_81 : decode cX1_swapRate 81 = .ok (.lcmp, 1) := by decide +kernel
theorem dX1_swapRate_82 : decode cX1_swapRate 82 = .ok (.ifCond .le 13, 3) := by decide +kernel
theorem dX1_swapRate_85 : decode cX1_swapRate 85 = .ok (.lload 4, 2) := by decide +kernel
theorem dX1_swapRate_87 : decode cX1_swapRate 87 = .ok (.lload_n 2, 1) := by decide +kernel
theorem dX1_swapRate_88 : decode cX1_swapRate 88 = .ok (.invokestatic 166, 3) := by decide +kernel
theorem dX1_swapRate_91 : decode cX1_swapRate 91 = .ok (.l2i, 1) := by decide +kernel
theorem dX1_swapRate_92 : decode cX1_swapRate 92 = .ok (.goto 4, 3) := by decide +kernel
theorem dX1_swapRate_95 : decode cX1_swapRate 95 = .ok (.iconst 0, 1) := by decide +kernel
theorem dX1_swapRate_96 : decode cX1_swapRate 96 = .ok (.ireturn, 1) := by decide +kernel
def f_X1_swapRate_55 (o : Nat) (m : zz_Mem)  (v1 : Int32) (v2 : Int64) : Option Int32 :=
  zz_ix v1 8 <|
  zz_bndR (f_X1_factorAt o m (m.1 74 v1.toNatClampNeg)) fun r1 =>
  zz_letJ (((1000000000 : Int64) - r1.toInt64) * (3600000 : Int64)) fun y2 =>
  if v2 ≤ (0 : Int64) then (
  some (0 : Int32))
  else (
  zz_bndR (f_J9_floorDiv_f86c9 y2 v2) fun r3 =>
  some r3.toInt32)
theorem t_X1_swapRate_55 {l : Launch} {G : zz_G} (hN : 107 ≤ zz_N G) {o : Nat} (ho : zz_isCurve G o) {m : zz_Mem}  : ∀ (v1 : Int32) (v2 : Int64), zz_Sim zz_sh l G mX1_swapRate 2 zz_vIr (zz_mC m) (f_X1_swapRate_55 o m v1 v2) 55 [(0, .ref (zz_a G o)), (1, .int v1), (2, .long v2)] [] m := by
  intro v1 v2
  unfold f_X1_swapRate_55
  refine zs_ldc2 (v := (1000000000 : Int64)) dX1_swapRate_55 kc_X1_173 ?_
  refine zs_aload_n dX1_swapRate_58 rfl 0 rfl ?_
  refine zs_aload_n dX1_swapRate_59 rfl 0 rfl ?_
  refine zs_getR fl_X1_29 dX1_swapRate_60 (ho).1 rfl ?_
  refine zs_getR fl_X1_193 dX1_swapRate_63 (sh_72 hN) rfl ?_
  refine zs_iload_n dX1_swapRate_66 rfl 1 rfl ?_
  refine zs_ialdG dX1_swapRate_67 (sh_74 hN) ?_
  refine zs_cV_iR (rest := [.long (1000000000 : Int64)]) (k_X1_factorAt hN (ho) _ _) dX1_swapRate_68 lv_X1_160 ok_X1_factorAt (zz_rcv_o (ho).1 rfl) (Nat.le_of_ble_eq_true rfl) rfl rfl (Nat.le_of_ble_eq_true rfl) (fun r1 => ?_)
  refine zs_i2l dX1_swapRate_71 ?_
  refine zs_lsub dX1_swapRate_72 ?_
  refine zs_ldc2 (v := (3600000 : Int64)) dX1_swapRate_73 kc_X1_135 ?_
  refine zs_lmul dX1_swapRate_76 ?_
  refine zs_letJ (fun y2 => ?_)
  refine zs_lstore [(4, .long y2), (0, .ref (zz_a G o)), (1, .int v1), (2, .long v2)] dX1_swapRate_77 (Nat.le_of_ble_eq_true rfl) rfl ?_
  refine zs_lload_n dX1_swapRate_79 rfl 3 rfl ?_
  refine zs_lconst (v := (0 : Int64)) dX1_swapRate_80 rfl ?_
  refine zs_lcmp_le (tgt := 95) dX1_swapRate_81 dX1_swapRate_82 (by decide) ?_ ?_
  · refine zs_iconst (v := (0 : Int32)) dX1_swapRate_95 ci_0 ?_
    exact zs_iret dX1_swapRate_96 rfl rfl rfl
  · refine zs_lload dX1_swapRate_85 0 rfl ?_
    refine zs_lload_n dX1_swapRate_87 rfl 3 rfl ?_
    refine zs_cS_jR (rest := []) (k_J9_floorDiv_f86c9 hN _ _ _) dX1_swapRate_88 ls_X1_166 ok_J9_floorDiv_f86c9 (Nat.le_of_ble_eq_true rfl) rfl rfl (Nat.le_of_ble_eq_true rfl) (fun r3 => ?_)
    refine zs_l2i dX1_swapRate_91 ?_
    refine zs_goto (tgt := 96) dX1_swapRate_92 (by decide) ?_
    exact zs_iret dX1_swapRate_96 rfl rfl rfl
def f_X1_swapRate_5 (o : Nat) (m : zz_Mem)  : Nat → Int32 → Int64 → Int32 → Option Int32
  | 0, _, _, _ => none
  | n + 1, v1, v2, v4 =>
  zz_ix v1 8 <|
  if (m.1 75 v1.toNatClampNeg) ≤ v4 then (
  f_X1_swapRate_55 o m v1 v2)
  else (
  zz_bndR (f_X8_periodDays m v1 v4) fun r1 =>
  zz_bndR (f_X8_periodEnd m v1 v4) fun r2 =>
  zz_bndR (f_X1_factorAt o m r2) fun r3 =>
  zz_letJ (v2 + (r1.toInt64 * r3.toInt64)) fun y4 =>
  zz_letI (v4 + (1 : Int32)) fun x5 =>
  f_X1_swapRate_5 o m n v1 y4 x5)
theorem t_X1_swapRate_5 {l : Launch} {G : zz_G} (hN : 107 ≤ zz_N G) {o : Nat} (ho : zz_isCurve G o) {m : zz_Mem}  : ∀ (n : Nat) (v1 : Int32) (v2 : Int64) (v4 : Int32), zz_Sim zz_sh l G mX1_swapRate 2 zz_vIr (zz_mC m) (f_X1_swapRate_5 o m n v1 v2 v4) 5 [(0, .ref (zz_a G o)), (1, .int v1), (2, .long v2), (4, .int v4)] [] m := by
  intro n
  induction n with
  | zero => intro _ _ _; exact zs_none
  | succ n ih =>
    intro v1 v2 v4
    rw [f_X1_swapRate_5]
    refine zs_iload dX1_swapRate_5 3 rfl ?_
    refine zs_aload_n dX1_swapRate_7 rfl 0 rfl ?_
    refine zs_getR fl_X1_29 dX1_swapRate_8 (ho).1 rfl ?_
    refine zs_getR fl_X1_151 dX1_swapRate_11 (sh_72 hN) rfl ?_
    refine zs_iload_n dX1_swapRate_14 rfl 1 rfl ?_
    refine zs_ialdG dX1_swapRate_15 (sh_75 hN) ?_
    refine zs_icmp_ge (tgt := 55) dX1_swapRate_16 (by decide) ?_ ?_
    · refine zs_sub [0, 1, 2] rfl ?_
      exact t_X1_swapRate_55 hN ho _ _
    · refine zs_lload_n dX1_swapRate_19 rfl 2 rfl ?_
      refine zs_aload_n dX1_swapRate_20 rfl 0 rfl ?_
      refine zs_getR fl_X1_29 dX1_swapRate_21 (ho).1 rfl ?_
      refine zs_iload_n dX1_swapRate_24 rfl 1 rfl ?_
      refine zs_iload dX1_swapRate_25 3 rfl ?_
      refine zs_cV_iR (rest := [.long v2]) (k_X8_periodDays hN _ _ _) dX1_swapRate_27 lv_X1_154 ok_X8_periodDays (zz_rcv_o (sh_72 hN) rfl) (Nat.le_of_ble_eq_true rfl) rfl rfl (Nat.le_of_ble_eq_true rfl) (fun r1 => ?_)
      refine zs_i2l dX1_swapRate_30 ?_
      refine zs_aload_n dX1_swapRate_31 rfl 0 rfl ?_
      refine zs_aload_n dX1_swapRate_32 rfl 0 rfl ?_
      refine zs_getR fl_X1_29 dX1_swapRate_33 (ho).1 rfl ?_
      refine zs_iload_n dX1_swapRate_36 rfl 1 rfl ?_
      refine zs_iload dX1_swapRate_37 3 rfl ?_
      refine zs_cV_iR (rest := [.ref (zz_a G o), .long r1.toInt64, .long v2]) (k_X8_periodEnd hN _ _ _) dX1_swapRate_39 lv_X1_157 ok_X8_periodEnd (zz_rcv_o (sh_72 hN) rfl) (Nat.le_of_ble_eq_true rfl) rfl rfl (Nat.le_of_ble_eq_true rfl) (fun r2 => ?_)
      refine zs_cV_iR (rest := [.long r1.toInt64, .long v2]) (k_X1_factorAt hN (ho) _ _) dX1_swapRate_42 lv_X1_160 ok_X1_factorAt (zz_rcv_o (ho).1 rfl) (Nat.le_of_ble_eq_true rfl) rfl rfl (Nat.le_of_ble_eq_true rfl) (fun r3 => ?_)
      refine zs_i2l dX1_swapRate_45 ?_
      refine zs_lmul dX1_swapRate_46 ?_
      refine zs_ladd dX1_swapRate_47 ?_
      refine zs_letJ (fun y4 => ?_)
      refine zs_lstore_n [(2, .long y4), (0, .ref (zz_a G o)), (1, .int v1), (4, .int v4)] dX1_swapRate_48 rfl (Nat.le_of_ble_eq_true rfl) rfl ?_
      refine zs_iinc (fun y => [(4, .int y), (2, .long y4), (0, .ref (zz_a G o)), (1, .int v1)]) dX1_swapRate_49 3 rfl ci_1 (Nat.le_of_ble_eq_true rfl) (fun _ => rfl) (fun x5 => ?_)
      refine zs_goto (tgt := 5) dX1_swapRate_52 (by decide) ?_
      refine zs_sub [2, 3, 1, 0] rfl ?_
      exact ih _ _ _
def f_X1_swapRate (o : Nat) (m : zz_Mem) (p1 : Int32) : Option Int32 :=
  f_X1_swapRate_5 o m zz_fuel p1 (0 : Int64) (0 : Int32)
theorem k_X1_swapRate {l : Launch} {G : zz_G} (hN : 107 ≤ zz_N G) {o : Nat} (ho : zz_isCurve G o) : ∀ (p1 : Int32) (m : zz_Mem), zz_Con zz_sh l G mX1_swapRate 2 [.ref (zz_a G o), .int p1] zz_vIr (zz_mC m) (f_X1_swapRate o m p1) m := by
  intro p1 m
  refine zz_con (lv := [(0, .ref (zz_a G o)), (1, .int p1)]) (by decide +kernel) (Nat.le_of_ble_eq_true rfl) rfl ?_
  unfold f_X1_swapRate
  refine zs_lconst (v := (0 : Int64)) dX1_swapRate_0 rfl ?_
  refine zs_lstore_n [(2, .long (0 : Int64)), (0, .ref (zz_a G o)), (1, .int p1)] dX1_swapRate_1 rfl (Nat.le_of_ble_eq_true rfl) rfl ?_
  refine zs_iconst (v := (0 : Int32)) dX1_swapRate_2 ci_0 ?_
  refine zs_istore [(4, .int (0 : Int32)), (2, .long (0 : Int64)), (0, .ref (zz_a G o)), (1, .int p1)] dX1_swapRate_3 (Nat.le_of_ble_eq_true rfl) rfl ?_
  refine zs_sub [2, 3, 1, 0] rfl ?_
  exact t_X1_swapRate_5 hN ho zz_fuel _ _ _
/-! X1_bookWorth: PillarDesk$Curve.bookWorth()J -/
theorem dX1_bookWorth_0 : decode cX1_bookWorth 0 = .ok (.lconst 0, 1) := by decide +kernel
theorem dX1_bookWorth_1 : decode cX1_bookWorth 1 = .ok (.lstore_n 1, 1) := by decide +kernel
theorem dX1_bookWorth_2 : decode cX1_bookWorth 2 = .ok (.iconst 0, 1) := by decide +kernel
theorem dX1_bookWorth_3 : decode cX1_bookWorth 3 = .ok (.istore_n 3, 1) := by decide +kernel
theorem dX1_bookWorth_4 : decode cX1_bookWorth 4 = .ok (.iload_n 3, 1) := by decide +kernel
theorem dX1_bookWorth_5 : decode cX1_bookWorth 5 = .ok (.aload_n 0, 1) := by decide +kernel
theorem dX1_bookWorth_6 : decode cX1_bookWorth 6 = .ok (.getfield 25, 3) := by decide +kernel
theorem dX1_bookWorth_9 : decode cX1_bookWorth 9 = .ok (.getfield 196, 3) := by decide +kernel
theorem dX1_bookWorth_12 : decode cX1_bookWorth 12 = .ok (.if_icmp .ge 46, 3) := by decide +kernel
theorem dX1_bookWorth_15 : decode cX1_bookWorth 15 = .ok (.iload_n 3, 1) := by decide +kernel
theorem dX1_bookWorth_16 : decode cX1_bookWorth 16 = .ok (.bipush 10, 2) := by decide +kernel
theorem dX1_bookWorth_18 : decode cX1_bookWorth 18 = .ok (.if_icmp .ge 40, 3) := by decide +kernel
theorem dX1_bookWorth_21 : decode cX1_bookWorth 21 = .ok (.lload_n 1, 1) := by decide +kernel
theorem dX1_bookWorth_22 : decode cX1_bookWorth 22 = .ok (.aload_n 0, 1) := by decide +kernel
theorem dX1_bookWorth_23 : decode cX1_bookWorth 23 = .ok (.getfield 25, 3) := by decide +kernel
theorem dX1_bookWorth_26 : decode cX1_bookWorth 26 = .ok (.getfield 199, 3) := by decide +kernel
theorem dX1_bookWorth_29 : decode cX1_bookWorth 29 = .ok (.getfield 203, 3) := by decide +kernel
theorem dX1_bookWorth_32 : decode cX1_bookWorth 32 = .ok (.iload_n 3, 1) := by decide +kernel
theorem dX1_bookWorth_33 : decode cX1_bookWorth 33 = .ok (.iaload, 1) := by decide +kernel
theorem dX1_bookWorth_34 : decode cX1_bookWorth 34 = .ok (.i2l, 1) := by decide +kernel
theorem dX1_bookWorth_35 : decode cX1_bookWorth 35 = .ok (.aload_n 0, 1) := by decide +kernel
theorem dX1_bookWorth_36 : decode cX1_bookWorth 36 = .ok (.aload_n 0, 1) := by decide +kernel
theorem dX1_bookWorth_37 : decode cX1_bookWorth 37 = .ok (.getfield 25, 3) := by decide +kernel
theorem dX1_bookWorth_40 : decode cX1_bookWorth 40 = .ok (.getfield 206, 3) := by decide +kernel
theorem dX1_bookWorth_43 : decode cX1_bookWorth 43 = .ok (.iload_n 3, 1) := by decide +kernel
theorem dX1_bookWorth_44 : decode cX1_bookWorth 44 = .ok (.iaload, 1) := by decide +kernel
theorem dX1_bookWorth_45 : decode cX1_bookWorth 45 = .ok (.invokevirtual 160, 3) := by decide +kernel
theorem dX1_bookWorth_48 : decode cX1_bookWorth 48 = .ok (.i2l, 1) := by decide +kernel
theorem dX1_bookWorth_49 : decode cX1_bookWorth 49 = .ok (.lmul, 1) := by decide +kernel
theorem dX1_bookWorth_50 : decode cX1_bookWorth 50 = .ok (.ladd, 1) := by decide +kernel
theorem dX1_bookWorth_51 : decode cX1_bookWorth 51 = .ok (.lstore_n 1, 1) := by decide +kernel
theorem dX1_bookWorth_52 : decode cX1_bookWorth 52 = .ok (.iinc 3 1, 3) := by decide +kernel
theorem dX1_bookWorth_55 : decode cX1_bookWorth 55 = .ok (.goto (-51), 3) := by decide +kernel
theorem dX1_bookWorth_58 : decode cX1_bookWorth 58 = .ok (.lload_n 1, 1) := by decide +kernel
theorem dX1_bookWorth_59 : decode cX1_bookWorth 59 = .ok (.lreturn, 1) := by decide +kernel
def f_X1_bookWorth_4 (o : Nat) (m : zz_Mem)  : Nat → Int64 → Int32 → Option Int64
  | 0, _, _ => none
  | n + 1, v1, v3 =>
  if (m.1 2 10) ≤ v3 then (
  some v1)
  else (
  if (10 : Int32) ≤ v3 then (
  some v1)
  else (
  zz_ix v3 10 <|
  zz_ix v3 10 <|
  zz_bndR (f_X1_factorAt o m (m.1 8 v3.toNatClampNeg)) fun r1 =>
  zz_letJ (v1 + (((m.1 15 v3.toNatClampNeg).toInt64) * r1.toInt64)) fun y2 =>
  zz_letI (v3 + (1 : Int32)) fun x3 =>
  f_X1_bookWorth_4 o m n y2 x3))
theorem t_X1_bookWorth_4 {l : Launch} {G : zz_G} (hN : 107 ≤ zz_N G) {o : Nat} (ho : zz_isCurve G o) {m : zz_Mem}  : ∀ (n : Nat) (v1 : Int64) (v3 : Int32), zz_Sim zz_sh l G mX1_bookWorth 2 zz_vJr (zz_mC m) (f_X1_bookWorth_4 o m n v1 v3) 4 [(0, .ref (zz_a G o)), (1, .long v1), (3, .int v3)] [] m := by
  intro n
  induction n with
  | zero => intro _ _; exact zs_none
  | succ n ih =>
    intro v1 v3
    rw [f_X1_bookWorth_4]
    refine zs_iload_n dX1_bookWorth_4 rfl 2 rfl ?_
    refine zs_aload_n dX1_bookWorth_5 rfl 0 rfl ?_
    refine zs_getR fl_X1_25 dX1_bookWorth_6 (ho).1 rfl ?_
    refine zs_getI fl_X1_196 dX1_bookWorth_9 (sh_2 hN) rfl ?_
    refine zs_icmp_ge (tgt := 58) dX1_bookWorth_12 (by decide) ?_ ?_
    · refine zs_lload_n dX1_bookWorth_58 rfl 1 rfl ?_
      exact zs_lret dX1_bookWorth_59 rfl rfl rfl
    · refine zs_iload_n dX1_bookWorth_15 rfl 2 rfl ?_
      refine zs_bipush (v := (10 : Int32)) dX1_bookWorth_16 cb_10 ?_
      refine zs_icmp_ge (tgt := 58) dX1_bookWorth_18 (by decide) ?_ ?_
      · refine zs_lload_n dX1_bookWorth_58 rfl 1 rfl ?_
        exact zs_lret dX1_bookWorth_59 rfl rfl rfl
      · refine zs_lload_n dX1_bookWorth_21 rfl 1 rfl ?_
        refine zs_aload_n dX1_bookWorth_22 rfl 0 rfl ?_
        refine zs_getR fl_X1_25 dX1_bookWorth_23 (ho).1 rfl ?_
        refine zs_getR fl_X1_199 dX1_bookWorth_26 (sh_2 hN) rfl ?_
        refine zs_getR fl_X1_203 dX1_bookWorth_29 (sh_13 hN) rfl ?_
        refine zs_iload_n dX1_bookWorth_32 rfl 2 rfl ?_
        refine zs_ialdG dX1_bookWorth_33 (sh_15 hN) ?_
        refine zs_i2l dX1_bookWorth_34 ?_
        refine zs_aload_n dX1_bookWorth_35 rfl 0 rfl ?_
        refine zs_aload_n dX1_bookWorth_36 rfl 0 rfl ?_
        refine zs_getR fl_X1_25 dX1_bookWorth_37 (ho).1 rfl ?_
        refine zs_getR fl_X1_206 dX1_bookWorth_40 (sh_2 hN) rfl ?_
        refine zs_iload_n dX1_bookWorth_43 rfl 2 rfl ?_
        refine zs_ialdG dX1_bookWorth_44 (sh_8 hN) ?_
        refine zs_cV_iR (rest := [.long ((m.1 15 v3.toNatClampNeg).toInt64), .long v1]) (k_X1_factorAt hN (ho) _ _) dX1_bookWorth_45 lv_X1_160 ok_X1_factorAt (zz_rcv_o (ho).1 rfl) (Nat.le_of_ble_eq_true rfl) rfl rfl (Nat.le_of_ble_eq_true rfl) (fun r1 => ?_)
        refine zs_i2l dX1_bookWorth_48 ?_
        refine zs_lmul dX1_bookWorth_49 ?_
        refine zs_ladd dX1_bookWorth_50 ?_
        refine zs_letJ (fun y2 => ?_)
        refine zs_lstore_n [(1, .long y2), (0, .ref (zz_a G o)), (3, .int v3)] dX1_bookWorth_51 rfl (Nat.le_of_ble_eq_true rfl) rfl ?_
        refine zs_iinc (fun y => [(3, .int y), (1, .long y2), (0, .ref (zz_a G o))]) dX1_bookWorth_52 2 rfl ci_1 (Nat.le_of_ble_eq_true rfl) (fun _ => rfl) (fun x3 => ?_)
        refine zs_goto (tgt := 4) dX1_bookWorth_55 (by decide) ?_
        refine zs_sub [2, 1, 0] rfl ?_
        exact ih _ _
def f_X1_bookWorth (o : Nat) (m : zz_Mem)  : Option Int64 :=
  f_X1_bookWorth_4 o m zz_fuel (0 : Int64) (0 : Int32)
theorem k_X1_bookWorth {l : Launch} {G : zz_G} (hN : 107 ≤ zz_N G) {o : Nat} (ho : zz_isCurve G o) : ∀ (m : zz_Mem), zz_Con zz_sh l G mX1_bookWorth 2 [.ref (zz_a G o)] zz_vJr (zz_mC m) (f_X1_bookWorth o m) m := by
  intro m
  refine zz_con (lv := [(0, .ref (zz_a G o))]) (by decide +kernel) (Nat.le_of_ble_eq_true rfl) rfl ?_
  unfold f_X1_bookWorth
  refine zs_lconst (v := (0 : Int64)) dX1_bookWorth_0 rfl ?_
  refine zs_lstore_n [(1, .long (0 : Int64)), (0, .ref (zz_a G o))] dX1_bookWorth_1 rfl (Nat.le_of_ble_eq_true rfl) rfl ?_
  refine zs_iconst (v := (0 : Int32)) dX1_bookWorth_2 ci_0 ?_
  refine zs_istore_n [(3, .int (0 : Int32)), (1, .long (0 : Int64)), (0, .ref (zz_a G o))] dX1_bookWorth_3 rfl (Nat.le_of_ble_eq_true rfl) rfl ?_
  refine zs_sub [2, 1, 0] rfl ?_
  exact t_X1_bookWorth_4 hN ho zz_fuel _ _
/-! X2_bookHang: PillarDesk$Hedge.bookHang(I)J -/
theorem dX2_bookHang_0 : decode cX2_bookHang 0 = .ok (.lconst 0, 1) := by decide +kernel
theorem dX2_bookHang_1 : decode cX2_bookHang 1 = .ok (.lstore_n 2, 1) := by decide +kernel
theorem dX2_bookHang_2 : decode cX2_bookHang 2 = .ok (.iconst 0, 1) := by decide +kernel
theorem dX2_bookHang_3 : decode cX2_bookHang 3 = .ok (.istore 4, 2) := by decide +kernel
theorem dX2_bookHang_5 : decode cX2_bookHang 5 = .ok (.iload 4, 2) := by decide +kernel
theorem dX2_bookHang_7 : decode cX2_bookHang 7 = .ok (.aload_n 0, 1) := by decide +kernel
theorem dX2_bookHang_8 : decode cX2_bookHang 8 = .ok (.getfield 18, 3) := by decide +kernel
theorem dX2_bookHang_11 : decode cX2_bookHang 11 = .ok (.getfield 30, 3) := by decide +kernel
theorem dX2_bookHang_14 : decode cX2_bookHang 14 = .ok (.if_icmp .ge 53, 3) := by decide +kernel
theorem dX2_bookHang_17 : decode cX2_bookHang 17 = .ok (.iload 4, 2) := by decide +kernel
theorem dX2_bookHang_19 : decode cX2_bookHang 19 = .ok (.bipush 10, 2) := by decide +kernel
theorem dX2_bookHang_21 : decode cX2_bookHang 21 = .ok (.if_icmp .ge 46, 3) := by decide +kernel
theorem dX2_bookHang_24 : decode cX2_bookHang 24 = .ok (.lload_n 2, 1) := by decide +kernel
theorem dX2_bookHang_25 : decode cX2_bookHang 25 = .ok (.aload_n 0, 1) := by decide +kernel
theorem dX2_bookHang_26 : decode cX2_bookHang 26 = .ok (.getfield 18, 3) := by decide +kernel
theorem dX2_bookHang_29 : decode cX2_bookHang 29 = .ok (.getfield 36, 3) := by decide +kernel
theorem dX2_bookHang_32 : decode cX2_bookHang 32 = .ok (.getfield 40, 3) := by decide +kernel
theorem dX2_bookHang_35 : decode cX2_bookHang 35 = .ok (.iload 4, 2) := by decide +kernel
theorem dX2_bookHang_37 : decode cX2_bookHang 37 = .ok (.iaload, 1) := by decide +kernel
theorem dX2_bookHang_38 : decode cX2_bookHang 38 = .ok (.i2l, 1) := by decide +kernel
theorem dX2_bookHang_39 : decode cX2_bookHang 39 = .ok (.aload_n 0, 1) := by decide +kernel
theorem dX2_bookHang_40 : decode cX2_bookHang 40 = .ok (.getfield 22, 3) := by decide +kernel
theorem dX2_bookHang_43 : decode cX2_bookHang 43 = .ok (.iload_n 1, 1) := by decide +kernel
theorem dX2_bookHang_44 : decode cX2_bookHang 44 = .ok (.aload_n 0, 1) := by decide +kernel
theorem dX2_bookHang_45 : decode cX2_bookHang 45 = .ok (.getfield 18, 3) := by decide +kernel
theorem dX2_bookHang_48 : decode cX2_bookHang 48 = .ok (.getfield 46, 3) := by decide +kernel
theorem dX2_bookHang_51 : decode cX2_bookHang 51 = .ok (.iload 4, 2) := by decide +kernel
theorem dX2_bookHang_53 : decode cX2_bookHang 53 = .ok (.iaload, 1) := by decide +kernel
theorem dX2_bookHang_54 : decode cX2_bookHang 54 = .ok (.invokevirtual 49, 3) := by decide +kernel
theorem dX2_bookHang_57 : decode cX2_bookHang 57 = .ok (.i2l, 1) := by decide +kernel
theorem dX2_bookHang_58 : decode cX2_bookHang 58 = .ok (.lmul, 1) := by decide +kernel
theorem dX2_bookHang_59 : decode cX2_bookHang 59 = .ok (.ladd, 1) := by decide +kernel
theorem dX2_bookHang_60 : decode cX2_bookHang 60 = .ok (.lstore_n 2, 1) := by decide +kernel
theorem dX2_bookHang_61 : decode cX2_bookHang 61 = .ok (.iinc 4 1, 3) := by decide +kernel
theorem dX2_bookHang_64 : decode cX2_bookHang 64 = .ok (.goto (-59), 3) := by decide +kernel
theorem dX2_bookHang_67 : decode cX2_bookHang 67 = .ok (.lload_n 2, 1) := by decide +kernel
theorem dX2_bookHang_68 : decode cX2_bookHang 68 = .ok (.lreturn, 1) := by decide +kernel
def f_X2_bookHang_5 (m : zz_Mem)  : Nat → Int32 → Int64 → Int32 → Option Int64
  | 0, _, _, _ => none
  | n + 1, v1, v2, v4 =>
  if (m.1 2 10) ≤ v4 then (
  some v2)
  else (
  if (10 : Int32) ≤ v4 then (
  some v2)
  else (
  zz_ix v4 10 <|
  zz_ix v4 10 <|
  zz_bndR (f_X8_weight m v1 (m.1 8 v4.toNatClampNeg)) fun r1 =>
  zz_letJ (v2 + (((m.1 15 v4.toNatClampNeg).toInt64) * r1.toInt64)) fun y2 =>
  zz_letI (v4 + (1 : Int32)) fun x3 =>
  f_X2_bookHang_5 m n v1 y2 x3))
theorem t_X2_bookHang_5 {l : Launch} {G : zz_G} (hN : 107 ≤ zz_N G) {m : zz_Mem}  : ∀ (n : Nat) (v1 : Int32) (v2 : Int64) (v4 : Int32), zz_Sim zz_sh l G mX2_bookHang 2 zz_vJr (zz_mC m) (f_X2_bookHang_5 m n v1 v2 v4) 5 [(0, .ref (zz_a G 93)), (1, .int v1), (2, .long v2), (4, .int v4)] [] m := by
  intro n
  induction n with
  | zero => intro _ _ _; exact zs_none
  | succ n ih =>
    intro v1 v2 v4
    rw [f_X2_bookHang_5]
    refine zs_iload dX2_bookHang_5 3 rfl ?_
    refine zs_aload_n dX2_bookHang_7 rfl 0 rfl ?_
    refine zs_getR fl_X2_18 dX2_bookHang_8 (sh_93 hN) rfl ?_
    refine zs_getI fl_X2_30 dX2_bookHang_11 (sh_2 hN) rfl ?_
    refine zs_icmp_ge (tgt := 67) dX2_bookHang_14 (by decide) ?_ ?_
    · refine zs_lload_n dX2_bookHang_67 rfl 2 rfl ?_
      exact zs_lret dX2_bookHang_68 rfl rfl rfl
    · refine zs_iload dX2_bookHang_17 3 rfl ?_
      refine zs_bipush (v := (10 : Int32)) dX2_bookHang_19 cb_10 ?_
      refine zs_icmp_ge (tgt := 67) dX2_bookHang_21 (by decide) ?_ ?_
      · refine zs_lload_n dX2_bookHang_67 rfl 2 rfl ?_
        exact zs_lret dX2_bookHang_68 rfl rfl rfl
      · refine zs_lload_n dX2_bookHang_24 rfl 2 rfl ?_
        refine zs_aload_n dX2_bookHang_25 rfl 0 rfl ?_
        refine zs_getR fl_X2_18 dX2_bookHang_26 (sh_93 hN) rfl ?_
        refine zs_getR fl_X2_36 dX2_bookHang_29 (sh_2 hN) rfl ?_
        refine zs_getR fl_X2_40 dX2_bookHang_32 (sh_13 hN) rfl ?_
        refine zs_iload dX2_bookHang_35 3 rfl ?_
        refine zs_ialdG dX2_bookHang_37 (sh_15 hN) ?_
        refine zs_i2l dX2_bookHang_38 ?_
        refine zs_aload_n dX2_bookHang_39 rfl 0 rfl ?_
        refine zs_getR fl_X2_22 dX2_bookHang_40 (sh_93 hN) rfl ?_
        refine zs_iload_n dX2_bookHang_43 rfl 1 rfl ?_
        refine zs_aload_n dX2_bookHang_44 rfl 0 rfl ?_
        refine zs_getR fl_X2_18 dX2_bookHang_45 (sh_93 hN) rfl ?_
        refine zs_getR fl_X2_46 dX2_bookHang_48 (sh_2 hN) rfl ?_
        refine zs_iload dX2_bookHang_51 3 rfl ?_
        refine zs_ialdG dX2_bookHang_53 (sh_8 hN) ?_
        refine zs_cV_iR (rest := [.long ((m.1 15 v4.toNatClampNeg).toInt64), .long v2]) (k_X8_weight hN _ _ _) dX2_bookHang_54 lv_X2_49 ok_X8_weight (zz_rcv_o (sh_72 hN) rfl) (Nat.le_of_ble_eq_true rfl) rfl rfl (Nat.le_of_ble_eq_true rfl) (fun r1 => ?_)
        refine zs_i2l dX2_bookHang_57 ?_
        refine zs_lmul dX2_bookHang_58 ?_
        refine zs_ladd dX2_bookHang_59 ?_
        refine zs_letJ (fun y2 => ?_)
        refine zs_lstore_n [(2, .long y2), (0, .ref (zz_a G 93)), (1, .int v1), (4, .int v4)] dX2_bookHang_60 rfl (Nat.le_of_ble_eq_true rfl) rfl ?_
        refine zs_iinc (fun y => [(4, .int y), (2, .long y2), (0, .ref (zz_a G 93)), (1, .int v1)]) dX2_bookHang_61 3 rfl ci_1 (Nat.le_of_ble_eq_true rfl) (fun _ => rfl) (fun x3 => ?_)
        refine zs_goto (tgt := 5) dX2_bookHang_64 (by decide) ?_
        refine zs_sub [2, 3, 1, 0] rfl ?_
        exact ih _ _ _
def f_X2_bookHang (m : zz_Mem) (p1 : Int32) : Option Int64 :=
  f_X2_bookHang_5 m zz_fuel p1 (0 : Int64) (0 : Int32)
theorem k_X2_bookHang {l : Launch} {G : zz_G} (hN : 107 ≤ zz_N G) : ∀ (p1 : Int32) (m : zz_Mem), zz_Con zz_sh l G mX2_bookHang 2 [.ref (zz_a G 93), .int p1] zz_vJr (zz_mC m) (f_X2_bookHang m p1) m := by
  intro p1 m
  refine zz_con (lv := [(0, .ref (zz_a G 93)), (1, .int p1)]) (by decide +kernel) (Nat.le_of_ble_eq_true rfl) rfl ?_
  unfold f_X2_bookHang
  refine zs_lconst (v := (0 : Int64)) dX2_bookHang_0 rfl ?_
  refine zs_lstore_n [(2, .long (0 : Int64)), (0, .ref (zz_a G 93)), (1, .int p1)] dX2_bookHang_1 rfl (Nat.le_of_ble_eq_true rfl) rfl ?_
  refine zs_iconst (v := (0 : Int32)) dX2_bookHang_2 ci_0 ?_
  refine zs_istore [(4, .int (0 : Int32)), (2, .long (0 : Int64)), (0, .ref (zz_a G 93)), (1, .int p1)] dX2_bookHang_3 (Nat.le_of_ble_eq_true rfl) rfl ?_
  refine zs_sub [2, 3, 1, 0] rfl ?_
  exact t_X2_bookHang_5 hN zz_fuel _ _ _
/-! X2_dueHang: PillarDesk$Hedge.dueHang(II)J -/
theorem dX2_dueHang_0 : decode cX2_dueHang 0 = .ok (.lconst 0, 1) := by decide +kernel
theorem dX2_dueHang_1 : decode cX2_dueHang 1 = .ok (.lstore_n 3, 1) := by decide +kernel
theorem dX2_dueHang_2 : decode cX2_dueHang 2 = .ok (.iconst 0, 1) := by decide +kernel
theorem dX2_dueHang_3 : decode cX2_dueHang 3 = .ok (.istore 5, 2) := by decide +kernel
theorem dX2_dueHang_5 : decode cX2_dueHang 5 = .ok (.iload 5, 2) := by decide +kernel
theorem dX2_dueHang_7 : decode cX2_dueHang 7 = .ok (.aload_n 0, 1) := by decide +kernel
theorem dX2_dueHang_8 : decode cX2_dueHang 8 = .ok (.getfield 22, 3) := by decide +kernel
theorem dX2_dueHang_11 : decode cX2_dueHang 11 = .ok (.getfield 79, 3) := by decide +kernel
theorem dX2_dueHang_14 : decode cX2_dueHang 14 = .ok (.iload_n 1, 1) := by decide +kernel
theorem dX2_dueHang_15 : decode cX2_dueHang 15 = .ok (.iaload, 1) := by decide +kernel
theorem dX2_dueHang_16 : decode cX2_dueHang 16 = .ok (.if_icmp .ge 58, 3) := by decide +kernel
theorem dX2_dueHang_19 : decode cX2_dueHang 19 = .ok (.aload_n 0, 1) := by decide +kernel
theorem dX2_dueHang_20 : decode cX2_dueHang 20 = .ok (.getfield 26, 3) := by decide +kernel
theorem dX2_dueHang_23 : decode cX2_dueHang 23 = .ok (.getfield 67, 3) := by decide +kernel
theorem dX2_dueHang_26 : decode cX2_dueHang 26 = .ok (.iload_n 1, 1) := by decide +kernel
theorem dX2_dueHang_27 : decode cX2_dueHang 27 = .ok (.iaload, 1) := by decide +kernel
theorem dX2_dueHang_28 : decode cX2_dueHang 28 = .ok (.i2l, 1) := by decide +kernel
theorem dX2_dueHang_29 : decode cX2_dueHang 29 = .ok (.aload_n 0, 1) := by decide +kernel
theorem dX2_dueHang_30 : decode cX2_dueHang 30 = .ok (.getfield 22, 3) := by decide +kernel
theorem dX2_dueHang_33 : decode cX2_dueHang 33 = .ok (.iload_n 1, 1) := by decide +kernel
theorem dX2_dueHang_34 : decode cX2_dueHang 34 = .ok (.iload 5, 2) := by decide +kernel
theorem dX2_dueHang_36 : decode cX2_dueHang 36 = .ok (.invokevirtual 82, 3) := by decide +kernel
theorem dX2_dueHang_39 : decode cX2_dueHang 39 = .ok (.i2l, 1) := by decide +kernel
theorem dX2_dueHang_40 : decode cX2_dueHang 40 = .ok (.lmul, 1) := by decide +kernel
theorem dX2_dueHang_41 : decode cX2_dueHang 41 = .ok (.lstore 6, 2) := by decide +kernel
theorem dX2_dueHang_43 : decode cX2_dueHang 43 = .ok (.lload_n 3, 1) := by decide +kernel
theorem dX2_dueHang_44 : decode cX2_dueHang 44 = .ok (.lload 6, 2) := by decide +kernel
theorem dX2_dueHang_46 : decode cX2_dueHang 46 = .ok (.aload_n 0, 1) := by decide +kernel
theorem dX2_dueHang_47 : decode cX2_dueHang 47 = .ok (.getfield 22, 3) := by decide +kernel
theorem dX2_dueHang_50 : decode cX2_dueHang 50 = .ok (.iload_n 2, 1) := by decide +kernel
theorem dX2_dueHang_51 : decode cX2_dueHang 51 = .ok (.aload_n 0, 1) := by decide +kernel
theorem dX2_dueHang_52 : decode cX2_dueHang 52 = .ok (.getfield 22, 3) := by decide +kernel
theorem dX2_dueHang_55 : decode cX2_dueHang 55 = .ok (.iload_n 1, 1) := by decide +kernel
theorem dX2_dueHang_56 : decode cX2_dueHang 56 = .ok (.iload 5, 2) := by decide +kernel
theorem dX2_dueHang_58 : decode cX2_dueHang 58 = .ok (.invokevirtual 85, 3) := by decide +kernel
theorem dX2_dueHang_61 : decode cX2_dueHang 61 = .ok (.invokevirtual 49, 3) := by decide +kernel
theorem dX2_dueHang_64 : decode cX2_dueHang 64 = .ok (.i2l, 1) := by decide +kernel
theorem dX2_dueHang_65 : decode cX2_dueHang 65 = .ok (.lmul, 1) := by decide +kernel
theorem dX2_dueHang_66 : decode cX2_dueHang 66 = .ok (.ladd, 1) := by decide +kernel
theorem dX2_dueHang_67 : decode cX2_dueHang 67 = .ok (.lstore_n 3, 1) := by decide +kernel
theorem dX2_dueHang_68 : decode cX2_dueHang 68 = .ok (.iinc 5 1, 3) := by decide +kernel
theorem dX2_dueHang_71 : decode cX2_dueHang 71 = .ok (.goto (-66), 3) := by decide +kernel
theorem dX2_dueHang_74 : decode cX2_dueHang 74 = .ok (.lload_n 3, 1) := by decide +kernel
theorem dX2_dueHang_75 : decode cX2_dueHang 75 = .ok (.lreturn, 1) := by decide +kernel
def f_X2_dueHang_5 (m : zz_Mem)  : Nat → Int32 → Int32 → Int64 → Int32 → Option Int64
  | 0, _, _, _, _ => none
  | n + 1, v1, v2, v3, v5 =>
  zz_ix v1 8 <|
  if (m.1 75 v1.toNatClampNeg) ≤ v5 then (
  some v3)
  else (
  zz_ix v1 8 <|
  zz_bndR (f_X8_periodDays m v1 v5) fun r1 =>
  zz_letJ (((m.1 84 v1.toNatClampNeg).toInt64) * r1.toInt64) fun y2 =>
  zz_bndR (f_X8_periodEnd m v1 v5) fun r3 =>
  zz_bndR (f_X8_weight m v2 r3) fun r4 =>
  zz_letJ (v3 + (y2 * r4.toInt64)) fun y5 =>
  zz_letI (v5 + (1 : Int32)) fun x6 =>
  f_X2_dueHang_5 m n v1 v2 y5 x6)
theorem t_X2_dueHang_5 {l : Launch} {G : zz_G} (hN : 107 ≤ zz_N G) {m : zz_Mem}  : ∀ (n : Nat) (v1 : Int32) (v2 : Int32) (v3 : Int64) (v5 : Int32), zz_Sim zz_sh l G mX2_dueHang 2 zz_vJr (zz_mC m) (f_X2_dueHang_5 m n v1 v2 v3 v5) 5 [(0, .ref (zz_a G 93)), (1, .int v1), (2, .int v2), (3, .long v3), (5, .int v5)] [] m := by
  intro n
  induction n with
  | zero => intro _ _ _ _; exact zs_none
  | succ n ih =>
    intro v1 v2 v3 v5
    rw [f_X2_dueHang_5]
    refine zs_iload dX2_dueHang_5 4 rfl ?_
    refine zs_aload_n dX2_dueHang_7 rfl 0 rfl ?_
    refine zs_getR fl_X2_22 dX2_dueHang_8 (sh_93 hN) rfl ?_
    refine zs_getR fl_X2_79 dX2_dueHang_11 (sh_72 hN) rfl ?_
    refine zs_iload_n dX2_dueHang_14 rfl 1 rfl ?_
    refine zs_ialdG dX2_dueHang_15 (sh_75 hN) ?_
    refine zs_icmp_ge (tgt := 74) dX2_dueHang_16 (by decide) ?_ ?_
    · refine zs_lload_n dX2_dueHang_74 rfl 3 rfl ?_
      exact zs_lret dX2_dueHang_75 rfl rfl rfl
    · refine zs_aload_n dX2_dueHang_19 rfl 0 rfl ?_
      refine zs_getR fl_X2_26 dX2_dueHang_20 (sh_93 hN) rfl ?_
      refine zs_getR fl_X2_67 dX2_dueHang_23 (sh_83 hN) rfl ?_
      refine zs_iload_n dX2_dueHang_26 rfl 1 rfl ?_
      refine zs_ialdG dX2_dueHang_27 (sh_84 hN) ?_
      refine zs_i2l dX2_dueHang_28 ?_
      refine zs_aload_n dX2_dueHang_29 rfl 0 rfl ?_
      refine zs_getR fl_X2_22 dX2_dueHang_30 (sh_93 hN) rfl ?_
      refine zs_iload_n dX2_dueHang_33 rfl 1 rfl ?_
      refine zs_iload dX2_dueHang_34 4 rfl ?_
      refine zs_cV_iR (rest := [.long ((m.1 84 v1.toNatClampNeg).toInt64)]) (k_X8_periodDays hN _ _ _) dX2_dueHang_36 lv_X2_82 ok_X8_periodDays (zz_rcv_o (sh_72 hN) rfl) (Nat.le_of_ble_eq_true rfl) rfl rfl (Nat.le_of_ble_eq_true rfl) (fun r1 => ?_)
      refine zs_i2l dX2_dueHang_39 ?_
      refine zs_lmul dX2_dueHang_40 ?_
      refine zs_letJ (fun y2 => ?_)
      refine zs_lstore [(6, .long y2), (0, .ref (zz_a G 93)), (1, .int v1), (2, .int v2), (3, .long v3), (5, .int v5)] dX2_dueHang_41 (Nat.le_of_ble_eq_true rfl) rfl ?_
      refine zs_lload_n dX2_dueHang_43 rfl 4 rfl ?_
      refine zs_lload dX2_dueHang_44 0 rfl ?_
      refine zs_aload_n dX2_dueHang_46 rfl 1 rfl ?_
      refine zs_getR fl_X2_22 dX2_dueHang_47 (sh_93 hN) rfl ?_
      refine zs_iload_n dX2_dueHang_50 rfl 3 rfl ?_
      refine zs_aload_n dX2_dueHang_51 rfl 1 rfl ?_
      refine zs_getR fl_X2_22 dX2_dueHang_52 (sh_93 hN) rfl ?_
      refine zs_iload_n dX2_dueHang_55 rfl 2 rfl ?_
      refine zs_iload dX2_dueHang_56 5 rfl ?_
      refine zs_cV_iR (rest := [.int v2, .ref (zz_a G 72), .long y2, .long v3]) (k_X8_periodEnd hN _ _ _) dX2_dueHang_58 lv_X2_85 ok_X8_periodEnd (zz_rcv_o (sh_72 hN) rfl) (Nat.le_of_ble_eq_true rfl) rfl rfl (Nat.le_of_ble_eq_true rfl) (fun r3 => ?_)
      refine zs_cV_iR (rest := [.long y2, .long v3]) (k_X8_weight hN _ _ _) dX2_dueHang_61 lv_X2_49 ok_X8_weight (zz_rcv_o (sh_72 hN) rfl) (Nat.le_of_ble_eq_true rfl) rfl rfl (Nat.le_of_ble_eq_true rfl) (fun r4 => ?_)
      refine zs_i2l dX2_dueHang_64 ?_
      refine zs_lmul dX2_dueHang_65 ?_
      refine zs_ladd dX2_dueHang_66 ?_
      refine zs_letJ (fun y5 => ?_)
      refine zs_lstore_n [(3, .long y5), (6, .long y2), (0, .ref (zz_a G 93)), (1, .int v1), (2, .int v2), (5, .int v5)] dX2_dueHang_67 rfl (Nat.le_of_ble_eq_true rfl) rfl ?_
      refine zs_iinc (fun y => [(5, .int y), (3, .long y5), (6, .long y2), (0, .ref (zz_a G 93)), (1, .int v1), (2, .int v2)]) dX2_dueHang_68 5 rfl ci_1 (Nat.le_of_ble_eq_true rfl) (fun _ => rfl) (fun x6 => ?_)
      refine zs_goto (tgt := 5) dX2_dueHang_71 (by decide) ?_
      refine zs_sub [3, 4, 5, 1, 0] rfl ?_
      exact ih _ _ _ _
def f_X2_dueHang (m : zz_Mem) (p1 : Int32) (p2 : Int32) : Option Int64 :=
  f_X2_dueHang_5 m zz_fuel p1 p2 (0 : Int64) (0 : Int32)
theorem k_X2_dueHang {l : Launch} {G : zz_G} (hN : 107 ≤ zz_N G) : ∀ (p1 : Int32) (p2 : Int32) (m : zz_Mem), zz_Con zz_sh l G mX2_dueHang 2 [.ref (zz_a G 93), .int p1, .int p2] zz_vJr (zz_mC m) (f_X2_dueHang m p1 p2) m := by
  intro p1 p2 m
  refine zz_con (lv := [(0, .ref (zz_a G 93)), (1, .int p1), (2, .int p2)]) (by decide +kernel) (Nat.le_of_ble_eq_true rfl) rfl ?_
  unfold f_X2_dueHang
  refine zs_lconst (v := (0 : Int64)) dX2_dueHang_0 rfl ?_
  refine zs_lstore_n [(3, .long (0 : Int64)), (0, .ref (zz_a G 93)), (1, .int p1), (2, .int p2)] dX2_dueHang_1 rfl (Nat.le_of_ble_eq_true rfl) rfl ?_
  refine zs_iconst (v := (0 : Int32)) dX2_dueHang_2 ci_0 ?_
  refine zs_istore [(5, .int (0 : Int32)), (3, .long (0 : Int64)), (0, .ref (zz_a G 93)), (1, .int p1), (2, .int p2)] dX2_dueHang_3 (Nat.le_of_ble_eq_true rfl) rfl ?_
  refine zs_sub [2, 3, 4, 1, 0] rfl ?_
  exact t_X2_dueHang_5 hN zz_fuel _ _ _ _
/-! X2_pieceHang: PillarDesk$Hedge.pieceHang(II)J -/
theorem dX2_pieceHang_0 : decode cX2_pieceHang 0 = .ok (.ldc2_w 55, 3) := by decide +kernel
theorem dX2_pieceHang_3 : decode cX2_pieceHang 3 = .ok (.aload_n 0, 1) := by decide +kernel
theorem dX2_pieceHang_4 : decode cX2_pieceHang 4 = .ok (.getfield 22, 3) := by decide +kernel
theorem dX2_pieceHang_7 : decode cX2_pieceHang 7 = .ok (.iload_n 2, 1) := by decide +kernel
theorem dX2_pieceHang_8 : decode cX2_pieceHang 8 = .ok (.aload_n 0, 1) := by decide +kernel
theorem dX2_pieceHang_9 : decode cX2_pieceHang 9 = .ok (.getfield 22, 3) := by decide +kernel
theorem dX2_pieceHang_12 : decode cX2_pieceHang 12 = .ok (.getfield 57, 3) := by decide +kernel
theorem dX2_pieceHang_15 : decode cX2_pieceHang 15 = .ok (.iload_n 1, 1) := by decide +kernel
theorem dX2_pieceHang_16 : decode cX2_pieceHang 16 = .ok (.iaload, 1) := by decide +kernel
theorem dX2_pieceHang_17 : decode cX2_pieceHang 17 = .ok (.invokevirtual 49, 3) := by decide +kernel
theorem dX2_pieceHang_20 : decode cX2_pieceHang 20 = .ok (.i2l, 1) := by decide +kernel
theorem dX2_pieceHang_21 : decode cX2_pieceHang 21 = .ok (.lmul, 1) := by decide +kernel
theorem dX2_pieceHang_22 : decode cX2_pieceHang 22 = .ok (.lstore_n 3, 1) := by decide +kernel
theorem dX2_pieceHang_23 : decode cX2_pieceHang 23 = .ok (.aload_n 0, 1) := by decide +kernel
theorem dX2_pieceHang_24 : decode cX2_pieceHang 24 = .ok (.getfield 18, 3) := by decide +kernel
theorem dX2_pieceHang_27 : decode cX2_pieceHang 27 = .ok (.getfield 60, 3) := by decide +kernel
theorem dX2_pieceHang_30 : decode cX2_pieceHang 30 = .ok (.iload_n 1, 1) := by decide +kernel
theorem dX2_pieceHang_31 : decode cX2_pieceHang 31 = .ok (.iaload, 1) := by decide +kernel
theorem dX2_pieceHang_32 : decode cX2_pieceHang 32 = .ok (.iconst 2, 1) := by decide +kernel
theorem dX2_pieceHang_33 : decode cX2_pieceHang 33 = .ok (.if_icmp .ne 12, 3) := by decide +kernel
theorem dX2_pieceHang_36 : decode cX2_pieceHang 36 = .ok (.lload_n 3, 1) := by decide +kernel
theorem dX2_pieceHang_37 : decode cX2_pieceHang 37 = .ok (.aload_n 0, 1) := by decide +kernel
theorem dX2_pieceHang_38 : decode cX2_pieceHang 38 = .ok (.iload_n 1, 1) := by decide +kernel
theorem dX2_pieceHang_39 : decode cX2_pieceHang 39 = .ok (.iload_n 2, 1) := by decide +kernel
theorem dX2_pieceHang_40 : decode cX2_pieceHang 40 = .ok (.invokevirtual 63, 3) := by decide +kernel
theorem dX2_pieceHang_43 : decode cX2_pieceHang 43 = .ok (.ladd, 1) := by decide +kernel
theorem dX2_pieceHang_44 : decode cX2_pieceHang 44 = .ok (.lreturn, 1) := by decide +kernel
theorem dX2_pieceHang_45 : decode cX2_pieceHang 45 = .ok (.aload_n 0, 1) := by decide +kernel
theorem dX2_pieceHang_46 : decode cX2_pieceHang 46 = .ok (.getfield 26, 3) := by decide +kernel
theorem dX2_pieceHang_49 : decode cX2_pieceHang 49 = .ok (.getfield 67, 3) := by decide +kernel
theorem dX2_pieceHang_52 : decode cX2_pieceHang 52 = .ok (.iload_n 1, 1) := by decide +kernel
theorem dX2_pieceHang_53 : decode cX2_pieceHang 53 = .ok (.iaload, 1) := by decide +kernel
theorem dX2_pieceHang_54 : decode cX2_pieceHang 54 = .ok (.i2l, 1) := by decide +kernel
theorem dX2_pieceHang_55 : decode cX2_pieceHang 55 = .ok (.aload_n 0, 1) := by decide +kernel
theorem dX2_pieceHang_56 : decode cX2_pieceHang 56 = .ok (.getfield 22, 3) := by decide +kernel
theorem dX2_pieceHang_59 : decode cX2_pieceHang 59 = .ok (.iload_n 1, 1) := by decide +kernel
theorem dX2_pieceHang_60 : decode cX2_pieceHang 60 = .ok (.invokevirtual 72, 3) := by decide +kernel
theorem dX2_pieceHang_63 : decode cX2_pieceHang 63 = .ok (.i2l, 1) := by decide +kernel
theorem dX2_pieceHang_64 : decode cX2_pieceHang 64 = .ok (.lmul, 1) := by decide +kernel
theorem dX2_pieceHang_65 : decode cX2_pieceHang 65 = .ok (.aload_n 0, 1) := by decide +kernel
theorem dX2_pieceHang_66 : decode cX2_pieceHang 66 = .ok (.getfield 22, 3) := by decide +kernel
theorem dX2_pieceHang_69 : decode cX2_pieceHang 69 = .ok (.iload_n 2, 1) := by decide +kernel
theorem dX2_pieceHang_70 : decode cX2_pieceHang 70 = .ok (.aload_n 0, 1) := by decide +kernel
theorem dX2_pieceHang_71 : decode cX2_pieceHang 71 = .ok (.getfield 22, 3) := by decide +kernel
theorem dX2_pieceHang_74 : decode cX2_pieceHang 74 = .ok (.getfield 57, 3) := by decide +kernel
theorem dX2_pieceHang_77 : decode cX2_pieceHang 77 = .ok (.iload_n 1, 1) := by decide +kernel
theorem dX2_pieceHang_78 : decode cX2_pieceHang 78 = .ok (.iaload, 1) := by decide +kernel
theorem dX2_pieceHang_79 : decode cX2_pieceHang 79 = .ok (.invokevirtual 49, 3) := by decide +kernel
theorem dX2_pieceHang_82 : decode cX2_pieceHang 82 = .ok (.i2l, 1) := by decide +kernel
theorem dX2_pieceHang_83 : decode cX2_pieceHang 83 = .ok (.lmul, 1) := by decide +kernel
theorem dX2_pieceHang_84 : decode cX2_pieceHang 84 = .ok (.lstore 5, 2) := by decide +kernel
theorem dX2_pieceHang_86 : decode cX2_pieceHang 86 = .ok (.aload_n 0, 1) := by decide +kernel
theorem dX2_pieceHang_87 : decode cX2_pieceHang 87 = .ok (.getfield 18, 3) := by decide +kernel
theorem dX2_pieceHang_90 : decode cX2_pieceHang 90 = .ok (.getfield 60, 3) := by decide +kernel
theorem dX2_pieceHang_93 : decode cX2_pieceHang 93 = .ok (.iload_n 1, 1) := by decide +kernel
theorem dX2_pieceHang_94 : decode cX2_pieceHang 94 = .ok (.iaload, 1) := by decide +kernel
theorem dX2_pieceHang_95 : decode cX2_pieceHang 95 = .ok (.iconst 1, 1) := by decide +kernel
theorem dX2_pieceHang_96 : decode cX2_pieceHang 96 = .ok (.if_icmp .ne 33, 3) := by decide +kernel
theorem dX2_pieceHang_99 : decode cX2_pieceHang 99 = .ok (.lload_n 3, 1) := by decide +kernel
theorem dX2_pieceHang_100 : decode cX2_pieceHang 100 = .ok (.lload 5, 2) := by decide +kernel
theorem dX2_pieceHang_102 : decode cX2_pieceHang 102 = .ok (.ladd, 1) := by decide +kernel
theorem dX2_pieceHang_103 : decode cX2_pieceHang 103 = .ok (.ldc2_w 55, 3) := by decide +kernel
theorem dX2_pieceHang_106 : decode cX2_pieceHang 106 = .ok (.aload_n 0, 1) := by decide +kernel
theorem dX2_pieceHang_107 : decode cX2_pieceHang 107 = .ok (.getfield 22, 3) := by decide +kernel
theorem dX2_pieceHang_110 : decode cX2_pieceHang 110 = .ok (.iload_n 2, 1) := by decide +kernel
theorem dX2_pieceHang_111 : decode cX2_pieceHang 111 = .ok (.aload_n 0, 1) := by decide +kernel
theorem dX2_pieceHang_112 : decode cX2_pieceHang 112 = .ok (.getfield 22, 3) := by decide +kernel
theorem dX2_pieceHang_115 : decode cX2_pieceHang 115 = .ok (.getfield 76, 3) := by decide +kernel
theorem dX2_pieceHang_118 : decode cX2_pieceHang 118 = .ok (.iload_n 1, 1) := by decide +kernel
theorem dX2_pieceHang_119 : decode cX2_pieceHang 119 = .ok (.iaload, 1) := by decide +kernel
theorem dX2_pieceHang_120 : decode cX2_pieceHang 120 = .ok (.invokevirtual 49, 3) := by decide +kernel
theorem dX2_pieceHang_123 : decode cX2_pieceHang 123 = .ok (.i2l, 1) := by decide +kernel
theorem dX2_pieceHang_124 : decode cX2_pieceHang 124 = .ok (.lmul, 1) := by decide +kernel
theorem dX2_pieceHang_125 : decode cX2_pieceHang 125 = .ok (.lsub, 1) := by decide +kernel
theorem dX2_pieceHang_126 : decode cX2_pieceHang 126 = .ok (.goto 7, 3) := by decide +kernel
theorem dX2_pieceHang_129 : decode cX2_pieceHang 129 = .ok (.lload_n 3, 1) := by decide +kernel
theorem dX2_pieceHang_130 : decode cX2_pieceHang 130 = .ok (.lload 5, 2) := by decide +kernel
theorem dX2_pieceHang_132 : decode cX2_pieceHang 132 = .ok (.ladd, 1) := by decide +kernel
theorem dX2_pieceHang_133 : decode cX2_pieceHang 133 = .ok (.lreturn, 1) := by decide +kernel
def f_X2_pieceHang (m : zz_Mem) (p1 : Int32) (p2 : Int32) : Option Int64 :=
  zz_ix p1 8 <|
  zz_bndR (f_X8_weight m p2 (m.1 74 p1.toNatClampNeg)) fun r1 =>
  zz_letJ ((3600000 : Int64) * r1.toInt64) fun y2 =>
  zz_ix p1 8 <|
  if (m.1 4 p1.toNatClampNeg) = (2 : Int32) then (
  zz_bndR (f_X2_dueHang m p1 p2) fun r7 =>
  some (y2 + r7))
  else (
  zz_ix p1 8 <|
  zz_bndR (f_X8_daysOf m p1) fun r3 =>
  zz_ix p1 8 <|
  zz_bndR (f_X8_weight m p2 (m.1 74 p1.toNatClampNeg)) fun r4 =>
  zz_letJ ((((m.1 84 p1.toNatClampNeg).toInt64) * r3.toInt64) * r4.toInt64) fun y5 =>
  zz_ix p1 8 <|
  if (m.1 4 p1.toNatClampNeg) = (1 : Int32) then (
  zz_ix p1 8 <|
  zz_bndR (f_X8_weight m p2 (m.1 73 p1.toNatClampNeg)) fun r6 =>
  some ((y2 + y5) - ((3600000 : Int64) * r6.toInt64)))
  else (
  some (y2 + y5)))
theorem k_X2_pieceHang {l : Launch} {G : zz_G} (hN : 107 ≤ zz_N G) : ∀ (p1 : Int32) (p2 : Int32) (m : zz_Mem), zz_Con zz_sh l G mX2_pieceHang 3 [.ref (zz_a G 93), .int p1, .int p2] zz_vJr (zz_mC m) (f_X2_pieceHang m p1 p2) m := by
  intro p1 p2 m
  refine zz_con (lv := [(0, .ref (zz_a G 93)), (1, .int p1), (2, .int p2)]) (by decide +kernel) (Nat.le_of_ble_eq_true rfl) rfl ?_
  unfold f_X2_pieceHang
  refine zs_ldc2 (v := (3600000 : Int64)) dX2_pieceHang_0 kc_X2_55 ?_
  refine zs_aload_n dX2_pieceHang_3 rfl 0 rfl ?_
  refine zs_getR fl_X2_22 dX2_pieceHang_4 (sh_93 hN) rfl ?_
  refine zs_iload_n dX2_pieceHang_7 rfl 2 rfl ?_
  refine zs_aload_n dX2_pieceHang_8 rfl 0 rfl ?_
  refine zs_getR fl_X2_22 dX2_pieceHang_9 (sh_93 hN) rfl ?_
  refine zs_getR fl_X2_57 dX2_pieceHang_12 (sh_72 hN) rfl ?_
  refine zs_iload_n dX2_pieceHang_15 rfl 1 rfl ?_
  refine zs_ialdG dX2_pieceHang_16 (sh_74 hN) ?_
  refine zs_cV_iR (rest := [.long (3600000 : Int64)]) (k_X8_weight hN _ _ _) dX2_pieceHang_17 lv_X2_49 ok_X8_weight (zz_rcv_o (sh_72 hN) rfl) (Nat.le_of_ble_eq_true rfl) rfl rfl (Nat.le_of_ble_eq_true rfl) (fun r1 => ?_)
  refine zs_i2l dX2_pieceHang_20 ?_
  refine zs_lmul dX2_pieceHang_21 ?_
  refine zs_letJ (fun y2 => ?_)
  refine zs_lstore_n [(3, .long y2), (0, .ref (zz_a G 93)), (1, .int p1), (2, .int p2)] dX2_pieceHang_22 rfl (Nat.le_of_ble_eq_true rfl) rfl ?_
  refine zs_aload_n dX2_pieceHang_23 rfl 1 rfl ?_
  refine zs_getR fl_X2_18 dX2_pieceHang_24 (sh_93 hN) rfl ?_
  refine zs_getR fl_X2_60 dX2_pieceHang_27 (sh_2 hN) rfl ?_
  refine zs_iload_n dX2_pieceHang_30 rfl 2 rfl ?_
  refine zs_ialdG dX2_pieceHang_31 (sh_4 hN) ?_
  refine zs_iconst (v := (2 : Int32)) dX2_pieceHang_32 ci_2 ?_
  refine zs_icmp_ne (tgt := 45) dX2_pieceHang_33 (by decide) ?_ ?_
  · refine zs_aload_n dX2_pieceHang_45 rfl 1 rfl ?_
    refine zs_getR fl_X2_26 dX2_pieceHang_46 (sh_93 hN) rfl ?_
    refine zs_getR fl_X2_67 dX2_pieceHang_49 (sh_83 hN) rfl ?_
    refine zs_iload_n dX2_pieceHang_52 rfl 2 rfl ?_
    refine zs_ialdG dX2_pieceHang_53 (sh_84 hN) ?_
    refine zs_i2l dX2_pieceHang_54 ?_
    refine zs_aload_n dX2_pieceHang_55 rfl 1 rfl ?_
    refine zs_getR fl_X2_22 dX2_pieceHang_56 (sh_93 hN) rfl ?_
    refine zs_iload_n dX2_pieceHang_59 rfl 2 rfl ?_
    refine zs_cV_iR (rest := [.long ((m.1 84 p1.toNatClampNeg).toInt64)]) (k_X8_daysOf hN _ _) dX2_pieceHang_60 lv_X2_72 ok_X8_daysOf (zz_rcv_o (sh_72 hN) rfl) (Nat.le_of_ble_eq_true rfl) rfl rfl (Nat.le_of_ble_eq_true rfl) (fun r3 => ?_)
    refine zs_i2l dX2_pieceHang_63 ?_
    refine zs_lmul dX2_pieceHang_64 ?_
    refine zs_aload_n dX2_pieceHang_65 rfl 1 rfl ?_
    refine zs_getR fl_X2_22 dX2_pieceHang_66 (sh_93 hN) rfl ?_
    refine zs_iload_n dX2_pieceHang_69 rfl 3 rfl ?_
    refine zs_aload_n dX2_pieceHang_70 rfl 1 rfl ?_
    refine zs_getR fl_X2_22 dX2_pieceHang_71 (sh_93 hN) rfl ?_
    refine zs_getR fl_X2_57 dX2_pieceHang_74 (sh_72 hN) rfl ?_
    refine zs_iload_n dX2_pieceHang_77 rfl 2 rfl ?_
    refine zs_ialdG dX2_pieceHang_78 (sh_74 hN) ?_
    refine zs_cV_iR (rest := [.long (((m.1 84 p1.toNatClampNeg).toInt64) * r3.toInt64)]) (k_X8_weight hN _ _ _) dX2_pieceHang_79 lv_X2_49 ok_X8_weight (zz_rcv_o (sh_72 hN) rfl) (Nat.le_of_ble_eq_true rfl) rfl rfl (Nat.le_of_ble_eq_true rfl) (fun r4 => ?_)
    refine zs_i2l dX2_pieceHang_82 ?_
    refine zs_lmul dX2_pieceHang_83 ?_
    refine zs_letJ (fun y5 => ?_)
    refine zs_lstore [(5, .long y5), (3, .long y2), (0, .ref (zz_a G 93)), (1, .int p1), (2, .int p2)] dX2_pieceHang_84 (Nat.le_of_ble_eq_true rfl) rfl ?_
    refine zs_aload_n dX2_pieceHang_86 rfl 2 rfl ?_
    refine zs_getR fl_X2_18 dX2_pieceHang_87 (sh_93 hN) rfl ?_
    refine zs_getR fl_X2_60 dX2_pieceHang_90 (sh_2 hN) rfl ?_
    refine zs_iload_n dX2_pieceHang_93 rfl 3 rfl ?_
    refine zs_ialdG dX2_pieceHang_94 (sh_4 hN) ?_
    refine zs_iconst (v := (1 : Int32)) dX2_pieceHang_95 ci_1 ?_
    refine zs_icmp_ne (tgt := 129) dX2_pieceHang_96 (by decide) ?_ ?_
    · refine zs_lload_n dX2_pieceHang_129 rfl 1 rfl ?_
      refine zs_lload dX2_pieceHang_130 0 rfl ?_
      refine zs_ladd dX2_pieceHang_132 ?_
      exact zs_lret dX2_pieceHang_133 rfl rfl rfl
    · refine zs_lload_n dX2_pieceHang_99 rfl 1 rfl ?_
      refine zs_lload dX2_pieceHang_100 0 rfl ?_
      refine zs_ladd dX2_pieceHang_102 ?_
      refine zs_ldc2 (v := (3600000 : Int64)) dX2_pieceHang_103 kc_X2_55 ?_
      refine zs_aload_n dX2_pieceHang_106 rfl 2 rfl ?_
      refine zs_getR fl_X2_22 dX2_pieceHang_107 (sh_93 hN) rfl ?_
      refine zs_iload_n dX2_pieceHang_110 rfl 4 rfl ?_
      refine zs_aload_n dX2_pieceHang_111 rfl 2 rfl ?_
      refine zs_getR fl_X2_22 dX2_pieceHang_112 (sh_93 hN) rfl ?_
      refine zs_getR fl_X2_76 dX2_pieceHang_115 (sh_72 hN) rfl ?_
      refine zs_iload_n dX2_pieceHang_118 rfl 3 rfl ?_
      refine zs_ialdG dX2_pieceHang_119 (sh_73 hN) ?_
      refine zs_cV_iR (rest := [.long (3600000 : Int64), .long (y2 + y5)]) (k_X8_weight hN _ _ _) dX2_pieceHang_120 lv_X2_49 ok_X8_weight (zz_rcv_o (sh_72 hN) rfl) (Nat.le_of_ble_eq_true rfl) rfl rfl (Nat.le_of_ble_eq_true rfl) (fun r6 => ?_)
      refine zs_i2l dX2_pieceHang_123 ?_
      refine zs_lmul dX2_pieceHang_124 ?_
      refine zs_lsub dX2_pieceHang_125 ?_
      refine zs_goto (tgt := 133) dX2_pieceHang_126 (by decide) ?_
      exact zs_lret dX2_pieceHang_133 rfl rfl rfl
  · refine zs_lload_n dX2_pieceHang_36 rfl 0 rfl ?_
    refine zs_aload_n dX2_pieceHang_37 rfl 1 rfl ?_
    refine zs_iload_n dX2_pieceHang_38 rfl 2 rfl ?_
    refine zs_iload_n dX2_pieceHang_39 rfl 3 rfl ?_
    refine zs_cV_jR (rest := [.long y2]) (k_X2_dueHang hN _ _ _) dX2_pieceHang_40 lv_X2_63 ok_X2_dueHang (zz_rcv_o (sh_93 hN) rfl) (Nat.le_of_ble_eq_true rfl) rfl rfl (Nat.le_of_ble_eq_true rfl) (fun r7 => ?_)
    refine zs_ladd dX2_pieceHang_43 ?_
    exact zs_lret dX2_pieceHang_44 rfl rfl rfl
/-! X2_takePieces: PillarDesk$Hedge.takePieces(I)V -/
theorem dX2_takePieces_0 : decode cX2_takePieces 0 = .ok (.aload_n 0, 1) := by decide +kernel
theorem dX2_takePieces_1 : decode cX2_takePieces 1 = .ok (.getfield 22, 3) := by decide +kernel
theorem dX2_takePieces_4 : decode cX2_takePieces 4 = .ok (.getfield 101, 3) := by decide +kernel
theorem dX2_takePieces_7 : decode cX2_takePieces 7 = .ok (.iload_n 1, 1) := by decide +kernel
theorem dX2_takePieces_8 : decode cX2_takePieces 8 = .ok (.iaload, 1) := by decide +kernel
theorem dX2_takePieces_9 : decode cX2_takePieces 9 = .ok (.istore_n 2, 1) := by decide +kernel
theorem dX2_takePieces_10 : decode cX2_takePieces 10 = .ok (.aload_n 0, 1) := by decide +kernel
theorem dX2_takePieces_11 : decode cX2_takePieces 11 = .ok (.iload_n 2, 1) := by decide +kernel
theorem dX2_takePieces_12 : decode cX2_takePieces 12 = .ok (.iload_n 1, 1) := by decide +kernel
theorem dX2_takePieces_13 : decode cX2_takePieces 13 = .ok (.invokevirtual 104, 3) := by decide +kernel
theorem dX2_takePieces_16 : decode cX2_takePieces 16 = .ok (.lstore_n 3, 1) := by decide +kernel
theorem dX2_takePieces_17 : decode cX2_takePieces 17 = .ok (.lload_n 3, 1) := by decide +kernel
theorem dX2_takePieces_18 : decode cX2_takePieces 18 = .ok (.lconst 0, 1) := by decide +kernel
theorem dX2_takePieces_19 : decode cX2_takePieces 19 = .ok (.lcmp, 1) := by decide +kernel
theorem dX2_takePieces_20 : decode cX2_takePieces 20 = .ok (.ifCond .gt 4, 3) := by decide +kernel
theorem dX2_takePieces_23 : decode cX2_takePieces 23 = .ok (.return_, 1) := by decide +kernel
theorem dX2_takePieces_24 : decode cX2_takePieces 24 = .ok (.aload_n 0, 1) := by decide +kernel
theorem dX2_takePieces_25 : decode cX2_takePieces 25 = .ok (.getfield 9, 3) := by decide +kernel
theorem dX2_takePieces_28 : decode cX2_takePieces 28 = .ok (.iload_n 1, 1) := by decide +kernel
theorem dX2_takePieces_29 : decode cX2_takePieces 29 = .ok (.ldc2_w 107, 3) := by decide +kernel
theorem dX2_takePieces_32 : decode cX2_takePieces 32 = .ok (.aload_n 0, 1) := by decide +kernel
theorem dX2_takePieces_33 : decode cX2_takePieces 33 = .ok (.getfield 15, 3) := by decide +kernel
theorem dX2_takePieces_36 : decode cX2_takePieces 36 = .ok (.iload_n 1, 1) := by decide +kernel
theorem dX2_takePieces_37 : decode cX2_takePieces 37 = .ok (.laload, 1) := by decide +kernel
theorem dX2_takePieces_38 : decode cX2_takePieces 38 = .ok (.lmul, 1) := by decide +kernel
theorem dX2_takePieces_39 : decode cX2_takePieces 39 = .ok (.lload_n 3, 1) := by decide +kernel
theorem dX2_takePieces_40 : decode cX2_takePieces 40 = .ok (.ladd, 1) := by decide +kernel
theorem dX2_takePieces_41 : decode cX2_takePieces 41 = .ok (.ldc2_w 107, 3) := by decide +kernel
theorem dX2_takePieces_44 : decode cX2_takePieces 44 = .ok (.lload_n 3, 1) := by decide +kernel
theorem dX2_takePieces_45 : decode cX2_takePieces 45 = .ok (.lmul, 1) := by decide +kernel
theorem dX2_takePieces_46 : decode cX2_takePieces 46 = .ok (.invokestatic 109, 3) := by decide +kernel
theorem dX2_takePieces_49 : decode cX2_takePieces 49 = .ok (.lneg, 1) := by decide +kernel
theorem dX2_takePieces_50 : decode cX2_takePieces 50 = .ok (.lastore, 1) := by decide +kernel
theorem dX2_takePieces_51 : decode cX2_takePieces 51 = .ok (.iconst 1, 1) := by decide +kernel
theorem dX2_takePieces_52 : decode cX2_takePieces 52 = .ok (.istore 5, 2) := by decide +kernel
theorem dX2_takePieces_54 : decode cX2_takePieces 54 = .ok (.iload 5, 2) := by decide +kernel
theorem dX2_takePieces_56 : decode cX2_takePieces 56 = .ok (.iload_n 1, 1) := by decide +kernel
theorem dX2_takePieces_57 : decode cX2_takePieces 57 = .ok (.if_icmp .gt 33, 3) := by decide +kernel
theorem dX2_takePieces_60 : decode cX2_takePieces 60 = .ok (.aload_n 0, 1) := by decide +kernel
theorem dX2_takePieces_61 : decode cX2_takePieces 61 = .ok (.getfield 15, 3) := by decide +kernel
theorem dX2_takePieces_64 : decode cX2_takePieces 64 = .ok (.iload 5, 2) := by decide +kernel
theorem dX2_takePieces_66 : decode cX2_takePieces 66 = .ok (.dup2, 1) := by decide +kernel
theorem dX2_takePieces_67 : decode cX2_takePieces 67 = .ok (.laload, 1) := by decide +kernel
theorem dX2_takePieces_68 : decode cX2_takePieces 68 = .ok (.aload_n 0, 1) := by decide +kernel
theorem dX2_takePieces_69 : decode cX2_takePieces 69 = .ok (.getfield 9, 3) := by decide +kernel
theorem dX2_takePieces_72 : decode cX2_takePieces 72 = .ok (.iload_n 1, 1) := by decide +kernel
theorem dX2_takePieces_73 : decode cX2_takePieces 73 = .ok (.laload, 1) := by decide +kernel
theorem dX2_takePieces_74 : decode cX2_takePieces 74 = .ok (.aload_n 0, 1) := by decide +kernel
theorem dX2_takePieces_75 : decode cX2_takePieces 75 = .ok (.iload_n 2, 1) := by decide +kernel
theorem dX2_takePieces_76 : decode cX2_takePieces 76 = .ok (.iload 5, 2) := by decide +kernel
theorem dX2_takePieces_78 : decode cX2_takePieces 78 = .ok (.invokevirtual 104, 3) := by decide +kernel
theorem dX2_takePieces_81 : decode cX2_takePieces 81 = .ok (.lmul, 1) := by decide +kernel
theorem dX2_takePieces_82 : decode cX2_takePieces 82 = .ok (.ladd, 1) := by decide +kernel
theorem dX2_takePieces_83 : decode cX2_takePieces 83 = .ok (.lastore, 1) := by decide +kernel
theorem dX2_takePieces_84 : decode cX2_takePieces 84 = .ok (.iinc 5 1, 3) := by decide +kernel
theorem dX2_takePieces_87 : decode cX2_takePieces 87 = .ok (.goto (-33), 3) := by decide +kernel
theorem dX2_takePieces_90 : decode cX2_takePieces 90 = .ok (.return_, 1) := by decide +kernel
def f_X2_takePieces_54   : Nat → Int32 → Int32 → Int32 → zz_Mem → Option zz_Mem
  | 0, _, _, _, _ => none
  | n + 1, v1, v2, v5, m =>
  if v1 < v5 then (
  some m)
  else (
  zz_ix v5 9 <|
  zz_ix v1 9 <|
  zz_bndR (f_X2_pieceHang m v2 v5) fun r1 =>
  zz_ix v5 9 <| zz_letM (zz_setJ m 95 v5.toNatClampNeg ((m.2.1 95 v5.toNatClampNeg) + ((m.2.1 94 v1.toNatClampNeg) * r1))) fun m2 =>
  zz_letI (v5 + (1 : Int32)) fun x3 =>
  f_X2_takePieces_54 n v1 v2 x3 m2)
theorem t_X2_takePieces_54 {l : Launch} {G : zz_G} (hN : 107 ≤ zz_N G)  : ∀ (n : Nat) (v1 : Int32) (v2 : Int32) (v5 : Int32) (m : zz_Mem), zz_Sim zz_sh l G mX2_takePieces 4 zz_vV zz_mV (f_X2_takePieces_54 n v1 v2 v5 m) 54 [(0, .ref (zz_a G 93)), (1, .int v1), (2, .int v2), (5, .int v5)] [] m := by
  intro n
  induction n with
  | zero => intro _ _ _ _; exact zs_none
  | succ n ih =>
    intro v1 v2 v5 m
    rw [f_X2_takePieces_54]
    refine zs_iload dX2_takePieces_54 3 rfl ?_
    refine zs_iload_n dX2_takePieces_56 rfl 1 rfl ?_
    refine zs_icmp_gt (tgt := 90) dX2_takePieces_57 (by decide) ?_ ?_
    · exact zs_vret dX2_takePieces_90 rfl rfl rfl
    · refine zs_aload_n dX2_takePieces_60 rfl 0 rfl ?_
      refine zs_getR fl_X2_15 dX2_takePieces_61 (sh_93 hN) rfl ?_
      refine zs_iload dX2_takePieces_64 3 rfl ?_
      refine zs_dup2_11 dX2_takePieces_66 rfl rfl ?_
      refine zs_laldG dX2_takePieces_67 (sh_95 hN) ?_
      refine zs_aload_n dX2_takePieces_68 rfl 0 rfl ?_
      refine zs_getR fl_X2_9 dX2_takePieces_69 (sh_93 hN) rfl ?_
      refine zs_iload_n dX2_takePieces_72 rfl 1 rfl ?_
      refine zs_laldG dX2_takePieces_73 (sh_94 hN) ?_
      refine zs_aload_n dX2_takePieces_74 rfl 0 rfl ?_
      refine zs_iload_n dX2_takePieces_75 rfl 2 rfl ?_
      refine zs_iload dX2_takePieces_76 3 rfl ?_
      refine zs_cV_jR (rest := [.long (m.2.1 94 v1.toNatClampNeg), .long (m.2.1 95 v5.toNatClampNeg), .int v5, .ref (zz_a G 95)]) (k_X2_pieceHang hN _ _ _) dX2_takePieces_78 lv_X2_104 ok_X2_pieceHang (zz_rcv_o (sh_93 hN) rfl) (Nat.le_of_ble_eq_true rfl) rfl rfl (Nat.le_of_ble_eq_true rfl) (fun r1 => ?_)
      refine zs_lmul dX2_takePieces_81 ?_
      refine zs_ladd dX2_takePieces_82 ?_
      refine zs_lastG dX2_takePieces_83 (sh_95 hN) (fun m2 => ?_)
      refine zs_iinc (fun y => [(5, .int y), (0, .ref (zz_a G 93)), (1, .int v1), (2, .int v2)]) dX2_takePieces_84 3 rfl ci_1 (Nat.le_of_ble_eq_true rfl) (fun _ => rfl) (fun x3 => ?_)
      refine zs_goto (tgt := 54) dX2_takePieces_87 (by decide) ?_
      refine zs_sub [1, 2, 3, 0] rfl ?_
      exact ih _ _ _ _
def f_X2_takePieces  (p1 : Int32) (m : zz_Mem) : Option zz_Mem :=
  zz_ix p1 9 <|
  zz_letI (m.1 80 p1.toNatClampNeg) fun x1 =>
  zz_bndR (f_X2_pieceHang m x1 p1) fun r2 =>
  if (0 : Int64) < r2 then (
  zz_ix p1 9 <|
  zz_bndR (f_J9_floorDiv_f86c9 (((2 : Int64) * (m.2.1 95 p1.toNatClampNeg)) + r2) ((2 : Int64) * r2)) fun r3 =>
  zz_ix p1 9 <| zz_letM (zz_setJ m 94 p1.toNatClampNeg (-r3)) fun m4 =>
  f_X2_takePieces_54 zz_fuel p1 x1 (1 : Int32) m4)
  else (
  some m)
theorem k_X2_takePieces {l : Launch} {G : zz_G} (hN : 107 ≤ zz_N G) : ∀ (p1 : Int32) (m : zz_Mem), zz_Con zz_sh l G mX2_takePieces 4 [.ref (zz_a G 93), .int p1] zz_vV zz_mV (f_X2_takePieces p1 m) m := by
  intro p1 m
  refine zz_con (lv := [(0, .ref (zz_a G 93)), (1, .int p1)]) (by decide +kernel) (Nat.le_of_ble_eq_true rfl) rfl ?_
  unfold f_X2_takePieces
  refine zs_aload_n dX2_takePieces_0 rfl 0 rfl ?_
  refine zs_getR fl_X2_22 dX2_takePieces_1 (sh_93 hN) rfl ?_
  refine zs_getR fl_X2_101 dX2_takePieces_4 (sh_72 hN) rfl ?_
  refine zs_iload_n dX2_takePieces_7 rfl 1 rfl ?_
  refine zs_ialdG dX2_takePieces_8 (sh_80 hN) ?_
  refine zs_letI (fun x1 => ?_)
  refine zs_istore_n [(2, .int x1), (0, .ref (zz_a G 93)), (1, .int p1)] dX2_takePieces_9 rfl (Nat.le_of_ble_eq_true rfl) rfl ?_
  refine zs_aload_n dX2_takePieces_10 rfl 1 rfl ?_
  refine zs_iload_n dX2_takePieces_11 rfl 0 rfl ?_
  refine zs_iload_n dX2_takePieces_12 rfl 2 rfl ?_
  refine zs_cV_jR (rest := []) (k_X2_pieceHang hN _ _ _) dX2_takePieces_13 lv_X2_104 ok_X2_pieceHang (zz_rcv_o (sh_93 hN) rfl) (Nat.le_of_ble_eq_true rfl) rfl rfl (Nat.le_of_ble_eq_true rfl) (fun r2 => ?_)
  refine zs_lstore_n [(3, .long r2), (2, .int x1), (0, .ref (zz_a G 93)), (1, .int p1)] dX2_takePieces_16 rfl (Nat.le_of_ble_eq_true rfl) rfl ?_
  refine zs_lload_n dX2_takePieces_17 rfl 0 rfl ?_
  refine zs_lconst (v := (0 : Int64)) dX2_takePieces_18 rfl ?_
  refine zs_lcmp_gt (tgt := 24) dX2_takePieces_19 dX2_takePieces_20 (by decide) ?_ ?_
  · refine zs_aload_n dX2_takePieces_24 rfl 2 rfl ?_
    refine zs_getR fl_X2_9 dX2_takePieces_25 (sh_93 hN) rfl ?_
    refine zs_iload_n dX2_takePieces_28 rfl 3 rfl ?_
    refine zs_ldc2 (v := (2 : Int64)) dX2_takePieces_29 kc_X2_107 ?_
    refine zs_aload_n dX2_takePieces_32 rfl 2 rfl ?_
    refine zs_getR fl_X2_15 dX2_takePieces_33 (sh_93 hN) rfl ?_
    refine zs_iload_n dX2_takePieces_36 rfl 3 rfl ?_
    refine zs_laldG dX2_takePieces_37 (sh_95 hN) ?_
    refine zs_lmul dX2_takePieces_38 ?_
    refine zs_lload_n dX2_takePieces_39 rfl 0 rfl ?_
    refine zs_ladd dX2_takePieces_40 ?_
    refine zs_ldc2 (v := (2 : Int64)) dX2_takePieces_41 kc_X2_107 ?_
    refine zs_lload_n dX2_takePieces_44 rfl 0 rfl ?_
    refine zs_lmul dX2_takePieces_45 ?_
    refine zs_cS_jR (rest := [.int p1, .ref (zz_a G 94)]) (k_J9_floorDiv_f86c9 hN _ _ _) dX2_takePieces_46 ls_X2_109 ok_J9_floorDiv_f86c9 (Nat.le_of_ble_eq_true rfl) rfl rfl (Nat.le_of_ble_eq_true rfl) (fun r3 => ?_)
    refine zs_lneg dX2_takePieces_49 ?_
    refine zs_lastG dX2_takePieces_50 (sh_94 hN) (fun m4 => ?_)
    refine zs_iconst (v := (1 : Int32)) dX2_takePieces_51 ci_1 ?_
    refine zs_istore [(5, .int (1 : Int32)), (3, .long r2), (2, .int x1), (0, .ref (zz_a G 93)), (1, .int p1)] dX2_takePieces_52 (Nat.le_of_ble_eq_true rfl) rfl ?_
    refine zs_sub [3, 4, 2, 0] rfl ?_
    exact t_X2_takePieces_54 hN zz_fuel _ _ _ _
  · exact zs_vret dX2_takePieces_23 rfl rfl rfl
/-! X2_flatten: PillarDesk$Hedge.flatten()V -/
theorem dX2_flatten_0 : decode cX2_flatten 0 = .ok (.iconst 0, 1) := by decide +kernel
theorem dX2_flatten_1 : decode cX2_flatten 1 = .ok (.istore_n 1, 1) := by decide +kernel
theorem dX2_flatten_2 : decode cX2_flatten 2 = .ok (.iload_n 1, 1) := by decide +kernel
theorem dX2_flatten_3 : decode cX2_flatten 3 = .ok (.aload_n 0, 1) := by decide +kernel
theorem dX2_flatten_4 : decode cX2_flatten 4 = .ok (.getfield 22, 3) := by decide +kernel
theorem dX2_flatten_7 : decode cX2_flatten 7 = .ok (.getfield 88, 3) := by decide +kernel
theorem dX2_flatten_10 : decode cX2_flatten 10 = .ok (.if_icmp .ge 35, 3) := by decide +kernel
theorem dX2_flatten_13 : decode cX2_flatten 13 = .ok (.aload_n 0, 1) := by decide +kernel
theorem dX2_flatten_14 : decode cX2_flatten 14 = .ok (.getfield 15, 3) := by decide +kernel
theorem dX2_flatten_17 : decode cX2_flatten 17 = .ok (.iload_n 1, 1) := by decide +kernel
theorem dX2_flatten_18 : decode cX2_flatten 18 = .ok (.aload_n 0, 1) := by decide +kernel
theorem dX2_flatten_19 : decode cX2_flatten 19 = .ok (.iload_n 1, 1) := by decide +kernel
theorem dX2_flatten_20 : decode cX2_flatten 20 = .ok (.invokevirtual 91, 3) := by decide +kernel
theorem dX2_flatten_23 : decode cX2_flatten 23 = .ok (.ldc2_w 55, 3) := by decide +kernel
theorem dX2_flatten_26 : decode cX2_flatten 26 = .ok (.lmul, 1) := by decide +kernel
theorem dX2_flatten_27 : decode cX2_flatten 27 = .ok (.ldc2_w 95, 3) := by decide +kernel
theorem dX2_flatten_30 : decode cX2_flatten 30 = .ok (.lmul, 1) := by decide +kernel
theorem dX2_flatten_31 : decode cX2_flatten 31 = .ok (.lastore, 1) := by decide +kernel
theorem dX2_flatten_32 : decode cX2_flatten 32 = .ok (.aload_n 0, 1) := by decide +kernel
theorem dX2_flatten_33 : decode cX2_flatten 33 = .ok (.getfield 9, 3) := by decide +kernel
theorem dX2_flatten_36 : decode cX2_flatten 36 = .ok (.iload_n 1, 1) := by decide +kernel
theorem dX2_flatten_37 : decode cX2_flatten 37 = .ok (.lconst 0, 1) := by decide +kernel
theorem dX2_flatten_38 : decode cX2_flatten 38 = .ok (.lastore, 1) := by decide +kernel
theorem dX2_flatten_39 : decode cX2_flatten 39 = .ok (.iinc 1 1, 3) := by decide +kernel
theorem dX2_flatten_42 : decode cX2_flatten 42 = .ok (.goto (-40), 3) := by decide +kernel
theorem dX2_flatten_45 : decode cX2_flatten 45 = .ok (.aload_n 0, 1) := by decide +kernel
theorem dX2_flatten_46 : decode cX2_flatten 46 = .ok (.getfield 22, 3) := by decide +kernel
theorem dX2_flatten_49 : decode cX2_flatten 49 = .ok (.getfield 88, 3) := by decide +kernel
theorem dX2_flatten_52 : decode cX2_flatten 52 = .ok (.iconst 1, 1) := by decide +kernel
theorem dX2_flatten_53 : decode cX2_flatten 53 = .ok (.isub, 1) := by decide +kernel
theorem dX2_flatten_54 : decode cX2_flatten 54 = .ok (.istore_n 1, 1) := by decide +kernel
theorem dX2_flatten_55 : decode cX2_flatten 55 = .ok (.iload_n 1, 1) := by decide +kernel
theorem dX2_flatten_56 : decode cX2_flatten 56 = .ok (.iconst 1, 1) := by decide +kernel
theorem dX2_flatten_57 : decode cX2_flatten 57 = .ok (.if_icmp .lt 14, 3) := by decide +kernel
theorem dX2_flatten_60 : decode cX2_flatten 60 = .ok (.aload_n 0, 1) := by decide +kernel
theorem dX2_flatten_61 : decode cX2_flatten 61 = .ok (.iload_n 1, 1) := by decide +kernel
theorem dX2_flatten_62 : decode cX2_flatten 62 = .ok (.invokevirtual 97, 3) := by decide +kernel
theorem dX2_flatten_65 : decode cX2_flatten 65 = .ok (.iinc 1 (-1), 3) := by decide +kernel
theorem dX2_flatten_68 : decode cX2_flatten 68 = .ok (.goto (-13), 3) := by decide +kernel
theorem dX2_flatten_71 : decode cX2_flatten 71 = .ok (.return_, 1) := by decide +kernel
def f_X2_flatten_55   : Nat → Int32 → zz_Mem → Option zz_Mem
  | 0, _, _ => none
  | n + 1, v1, m =>
  if v1 < (1 : Int32) then (
  some m)
  else (
  zz_bndR (f_X2_takePieces v1 m) fun m1 =>
  zz_letI (v1 + (-1 : Int32)) fun x2 =>
  f_X2_flatten_55 n x2 m1)
theorem t_X2_flatten_55 {l : Launch} {G : zz_G} (hN : 107 ≤ zz_N G)  : ∀ (n : Nat) (v1 : Int32) (m : zz_Mem), zz_Sim zz_sh l G mX2_flatten 5 zz_vV zz_mV (f_X2_flatten_55 n v1 m) 55 [(0, .ref (zz_a G 93)), (1, .int v1)] [] m := by
  intro n
  induction n with
  | zero => intro _ _; exact zs_none
  | succ n ih =>
    intro v1 m
    rw [f_X2_flatten_55]
    refine zs_iload_n dX2_flatten_55 rfl 1 rfl ?_
    refine zs_iconst (v := (1 : Int32)) dX2_flatten_56 ci_1 ?_
    refine zs_icmp_lt (tgt := 71) dX2_flatten_57 (by decide) ?_ ?_
    · exact zs_vret dX2_flatten_71 rfl rfl rfl
    · refine zs_aload_n dX2_flatten_60 rfl 0 rfl ?_
      refine zs_iload_n dX2_flatten_61 rfl 1 rfl ?_
      refine zs_cV_vW (rest := []) (k_X2_takePieces hN _ _) dX2_flatten_62 lv_X2_97 ok_X2_takePieces (zz_rcv_o (sh_93 hN) rfl) (Nat.le_of_ble_eq_true rfl) rfl rfl (Nat.le_of_ble_eq_true rfl) (fun m1 => ?_)
      refine zs_iinc (fun y => [(1, .int y), (0, .ref (zz_a G 93))]) dX2_flatten_65 1 rfl ci_m1 (Nat.le_of_ble_eq_true rfl) (fun _ => rfl) (fun x2 => ?_)
      refine zs_goto (tgt := 55) dX2_flatten_68 (by decide) ?_
      refine zs_sub [1, 0] rfl ?_
      exact ih _ _
def f_X2_flatten_45   (m : zz_Mem) : Option zz_Mem :=
  zz_letI ((m.1 72 8) - (1 : Int32)) fun x1 =>
  f_X2_flatten_55 zz_fuel x1 m
theorem t_X2_flatten_45 {l : Launch} {G : zz_G} (hN : 107 ≤ zz_N G)  : ∀ (m : zz_Mem), zz_Sim zz_sh l G mX2_flatten 5 zz_vV zz_mV (f_X2_flatten_45 m) 45 [(0, .ref (zz_a G 93))] [] m := by
  intro m
  unfold f_X2_flatten_45
  refine zs_aload_n dX2_flatten_45 rfl 0 rfl ?_
  refine zs_getR fl_X2_22 dX2_flatten_46 (sh_93 hN) rfl ?_
  refine zs_getI fl_X2_88 dX2_flatten_49 (sh_72 hN) rfl ?_
  refine zs_iconst (v := (1 : Int32)) dX2_flatten_52 ci_1 ?_
  refine zs_isub dX2_flatten_53 ?_
  refine zs_letI (fun x1 => ?_)
  refine zs_istore_n [(1, .int x1), (0, .ref (zz_a G 93))] dX2_flatten_54 rfl (Nat.le_of_ble_eq_true rfl) rfl ?_
  refine zs_sub [1, 0] rfl ?_
  exact t_X2_flatten_55 hN zz_fuel _ _
def f_X2_flatten_2   : Nat → Int32 → zz_Mem → Option zz_Mem
  | 0, _, _ => none
  | n + 1, v1, m =>
  if (m.1 72 8) ≤ v1 then (
  f_X2_flatten_45 m)
  else (
  zz_bndR (f_X2_bookHang m v1) fun r1 =>
  zz_ix v1 9 <| zz_letM (zz_setJ m 95 v1.toNatClampNeg ((r1 * (3600000 : Int64)) * (1000 : Int64))) fun m2 =>
  zz_ix v1 9 <| zz_letM (zz_setJ m2 94 v1.toNatClampNeg (0 : Int64)) fun m3 =>
  zz_letI (v1 + (1 : Int32)) fun x4 =>
  f_X2_flatten_2 n x4 m3)
theorem t_X2_flatten_2 {l : Launch} {G : zz_G} (hN : 107 ≤ zz_N G)  : ∀ (n : Nat) (v1 : Int32) (m : zz_Mem), zz_Sim zz_sh l G mX2_flatten 5 zz_vV zz_mV (f_X2_flatten_2 n v1 m) 2 [(0, .ref (zz_a G 93)), (1, .int v1)] [] m := by
  intro n
  induction n with
  | zero => intro _ _; exact zs_none
  | succ n ih =>
    intro v1 m
    rw [f_X2_flatten_2]
    refine zs_iload_n dX2_flatten_2 rfl 1 rfl ?_
    refine zs_aload_n dX2_flatten_3 rfl 0 rfl ?_
    refine zs_getR fl_X2_22 dX2_flatten_4 (sh_93 hN) rfl ?_
    refine zs_getI fl_X2_88 dX2_flatten_7 (sh_72 hN) rfl ?_
    refine zs_icmp_ge (tgt := 45) dX2_flatten_10 (by decide) ?_ ?_
    · refine zs_sub [0] rfl ?_
      exact t_X2_flatten_45 hN _
    · refine zs_aload_n dX2_flatten_13 rfl 0 rfl ?_
      refine zs_getR fl_X2_15 dX2_flatten_14 (sh_93 hN) rfl ?_
      refine zs_iload_n dX2_flatten_17 rfl 1 rfl ?_
      refine zs_aload_n dX2_flatten_18 rfl 0 rfl ?_
      refine zs_iload_n dX2_flatten_19 rfl 1 rfl ?_
      refine zs_cV_jR (rest := [.int v1, .ref (zz_a G 95)]) (k_X2_bookHang hN _ _) dX2_flatten_20 lv_X2_91 ok_X2_bookHang (zz_rcv_o (sh_93 hN) rfl) (Nat.le_of_ble_eq_true rfl) rfl rfl (Nat.le_of_ble_eq_true rfl) (fun r1 => ?_)
      refine zs_ldc2 (v := (3600000 : Int64)) dX2_flatten_23 kc_X2_55 ?_
      refine zs_lmul dX2_flatten_26 ?_
      refine zs_ldc2 (v := (1000 : Int64)) dX2_flatten_27 kc_X2_95 ?_
      refine zs_lmul dX2_flatten_30 ?_
      refine zs_lastG dX2_flatten_31 (sh_95 hN) (fun m2 => ?_)
      refine zs_aload_n dX2_flatten_32 rfl 0 rfl ?_
      refine zs_getR fl_X2_9 dX2_flatten_33 (sh_93 hN) rfl ?_
      refine zs_iload_n dX2_flatten_36 rfl 1 rfl ?_
      refine zs_lconst (v := (0 : Int64)) dX2_flatten_37 rfl ?_
      refine zs_lastG dX2_flatten_38 (sh_94 hN) (fun m3 => ?_)
      refine zs_iinc (fun y => [(1, .int y), (0, .ref (zz_a G 93))]) dX2_flatten_39 1 rfl ci_1 (Nat.le_of_ble_eq_true rfl) (fun _ => rfl) (fun x4 => ?_)
      refine zs_goto (tgt := 2) dX2_flatten_42 (by decide) ?_
      refine zs_sub [1, 0] rfl ?_
      exact ih _ _
def f_X2_flatten   (m : zz_Mem) : Option zz_Mem :=
  f_X2_flatten_2 zz_fuel (0 : Int32) m
theorem k_X2_flatten {l : Launch} {G : zz_G} (hN : 107 ≤ zz_N G) : ∀ (m : zz_Mem), zz_Con zz_sh l G mX2_flatten 5 [.ref (zz_a G 93)] zz_vV zz_mV (f_X2_flatten m) m := by
  intro m
  refine zz_con (lv := [(0, .ref (zz_a G 93))]) (by decide +kernel) (Nat.le_of_ble_eq_true rfl) rfl ?_
  unfold f_X2_flatten
  refine zs_iconst (v := (0 : Int32)) dX2_flatten_0 ci_0 ?_
  refine zs_istore_n [(1, .int (0 : Int32)), (0, .ref (zz_a G 93))] dX2_flatten_1 rfl (Nat.le_of_ble_eq_true rfl) rfl ?_
  refine zs_sub [1, 0] rfl ?_
  exact t_X2_flatten_2 hN zz_fuel _ _
/-! X4_orders: PillarDesk$Odds.orders(I)J -/
theorem dX4_orders_0 : decode cX4_orders 0 = .ok (.iload_n 1, 1) := by decide +kernel
theorem dX4_orders_1 : decode cX4_orders 1 = .ok (.iconst 2, 1) := by decide +kernel
theorem dX4_orders_2 : decode cX4_orders 2 = .ok (.if_icmp .ge 5, 3) := by decide +kernel
theorem dX4_orders_5 : decode cX4_orders 5 = .ok (.lconst 1, 1) := by decide +kernel
theorem dX4_orders_6 : decode cX4_orders 6 = .ok (.lreturn, 1) := by decide +kernel
theorem dX4_orders_7 : decode cX4_orders 7 = .ok (.iconst 0, 1) := by decide +kernel
theorem dX4_orders_8 : decode cX4_orders 8 = .ok (.istore_n 2, 1) := by decide +kernel
theorem dX4_orders_9 : decode cX4_orders 9 = .ok (.iconst 1, 1) := by decide +kernel
theorem dX4_orders_10 : decode cX4_orders 10 = .ok (.istore_n 3, 1) := by decide +kernel
theorem dX4_orders_11 : decode cX4_orders 11 = .ok (.iload_n 3, 1) := by decide +kernel
theorem dX4_orders_12 : decode cX4_orders 12 = .ok (.iload_n 1, 1) := by decide +kernel
theorem dX4_orders_13 : decode cX4_orders 13 = .ok (.if_icmp .ge 29, 3) := by decide +kernel
theorem dX4_orders_16 : decode cX4_orders 16 = .ok (.aload_n 0, 1) := by decide +kernel
theorem dX4_orders_17 : decode cX4_orders 17 = .ok (.getfield 9, 3) := by decide +kernel
theorem dX4_orders_20 : decode cX4_orders 20 = .ok (.iload_n 3, 1) := by decide +kernel
theorem dX4_orders_21 : decode cX4_orders 21 = .ok (.iaload, 1) := by decide +kernel
theorem dX4_orders_22 : decode cX4_orders 22 = .ok (.aload_n 0, 1) := by decide +kernel
theorem dX4_orders_23 : decode cX4_orders 23 = .ok (.getfield 9, 3) := by decide +kernel
theorem dX4_orders_26 : decode cX4_orders 26 = .ok (.iload_n 3, 1) := by decide +kernel
theorem dX4_orders_27 : decode cX4_orders 27 = .ok (.iconst 1, 1) := by decide +kernel
theorem dX4_orders_28 : decode cX4_orders 28 = .ok (.isub, 1) := by decide +kernel
theorem dX4_orders_29 : decode cX4_orders 29 = .ok (.iaload, 1) := by decide +kernel
theorem dX4_orders_30 : decode cX4_orders 30 = .ok (.if_icmp .ne 6, 3) := by decide +kernel
theorem dX4_orders_33 : decode cX4_orders 33 = .ok (.iinc 2 1, 3) := by decide +kernel
theorem dX4_orders_36 : decode cX4_orders 36 = .ok (.iinc 3 1, 3) := by decide +kernel
theorem dX4_orders_39 : decode cX4_orders 39 = .ok (.goto (-28), 3) := by decide +kernel
theorem dX4_orders_42 : decode cX4_orders 42 = .ok (.iload_n 1, 1) := by decide +kernel
theorem dX4_orders_43 : decode cX4_orders 43 = .ok (.iconst 2, 1) := by decide +kernel
theorem dX4_orders_44 : decode cX4_orders 44 = .ok (.if_icmp .ne 16, 3) := by decide +kernel
theorem dX4_orders_47 : decode cX4_orders 47 = .ok (.iload_n 2, 1) := by decide +kernel
theorem dX4_orders_48 : decode cX4_orders 48 = .ok (.iconst 1, 1) := by decide +kernel
theorem dX4_orders_49 : decode cX4_orders 49 = .ok (.if_icmp .ne 7, 3) := by decide +kernel
theorem dX4_orders_52 : decode cX4_orders 52 = .ok (.lconst 1, 1) := by decide +kernel
theorem dX4_orders_53 : decode cX4_orders 53 = .ok (.goto 6, 3) := by decide +kernel
theorem dX4_orders_56 : decode cX4_orders 56 = .ok (.ldc2_w 75, 3) := by decide +kernel
theorem dX4_orders_59 : decode cX4_orders 59 = .ok (.lreturn, 1) := by decide +kernel
theorem dX4_orders_60 : decode cX4_orders 60 = .ok (.iload_n 2, 1) := by decide +kernel
theorem dX4_orders_61 : decode cX4_orders 61 = .ok (.iconst 2, 1) := by decide +kernel
theorem dX4_orders_62 : decode cX4_orders 62 = .ok (.if_icmp .ne 7, 3) := by decide +kernel
theorem dX4_orders_65 : decode cX4_orders 65 = .ok (.lconst 1, 1) := by decide +kernel
theorem dX4_orders_66 : decode cX4_orders 66 = .ok (.goto 17, 3) := by decide +kernel
theorem dX4_orders_69 : decode cX4_orders 69 = .ok (.iload_n 2, 1) := by decide +kernel
theorem dX4_orders_70 : decode cX4_orders 70 = .ok (.iconst 1, 1) := by decide +kernel
theorem dX4_orders_71 : decode cX4_orders 71 = .ok (.if_icmp .ne 9, 3) := by decide +kernel
theorem dX4_orders_74 : decode cX4_orders 74 = .ok (.ldc2_w 77, 3) := by decide +kernel
theorem dX4_orders_77 : decode cX4_orders 77 = .ok (.goto 6, 3) := by decide +kernel
theorem dX4_orders_80 : decode cX4_orders 80 = .ok (.ldc2_w 79, 3) := by decide +kernel
theorem dX4_orders_83 : decode cX4_orders 83 = .ok (.lreturn, 1) := by decide +kernel
def f_X4_orders_42 (m : zz_Mem)  (v1 : Int32) (v2 : Int32) : Option Int64 :=
  if v1 = (2 : Int32) then (
  if v2 = (1 : Int32) then (
  some (1 : Int64))
  else (
  some (2 : Int64)))
  else (
  if v2 = (2 : Int32) then (
  some (1 : Int64))
  else (
  if v2 = (1 : Int32) then (
  some (3 : Int64))
  else (
  some (6 : Int64))))
theorem t_X4_orders_42 {l : Launch} {G : zz_G} (hN : 107 ≤ zz_N G) {m : zz_Mem}  : ∀ (v1 : Int32) (v2 : Int32), zz_Sim zz_sh l G mX4_orders 0 zz_vJr (zz_mC m) (f_X4_orders_42 m v1 v2) 42 [(1, .int v1), (2, .int v2)] [] m := by
  intro v1 v2
  unfold f_X4_orders_42
  refine zs_iload_n dX4_orders_42 rfl 0 rfl ?_
  refine zs_iconst (v := (2 : Int32)) dX4_orders_43 ci_2 ?_
  refine zs_icmp_ne (tgt := 60) dX4_orders_44 (by decide) ?_ ?_
  · refine zs_iload_n dX4_orders_60 rfl 1 rfl ?_
    refine zs_iconst (v := (2 : Int32)) dX4_orders_61 ci_2 ?_
    refine zs_icmp_ne (tgt := 69) dX4_orders_62 (by decide) ?_ ?_
    · refine zs_iload_n dX4_orders_69 rfl 1 rfl ?_
      refine zs_iconst (v := (1 : Int32)) dX4_orders_70 ci_1 ?_
      refine zs_icmp_ne (tgt := 80) dX4_orders_71 (by decide) ?_ ?_
      · refine zs_ldc2 (v := (6 : Int64)) dX4_orders_80 kc_X4_79 ?_
        exact zs_lret dX4_orders_83 rfl rfl rfl
      · refine zs_ldc2 (v := (3 : Int64)) dX4_orders_74 kc_X4_77 ?_
        refine zs_goto (tgt := 83) dX4_orders_77 (by decide) ?_
        exact zs_lret dX4_orders_83 rfl rfl rfl
    · refine zs_lconst (v := (1 : Int64)) dX4_orders_65 rfl ?_
      refine zs_goto (tgt := 83) dX4_orders_66 (by decide) ?_
      exact zs_lret dX4_orders_83 rfl rfl rfl
  · refine zs_iload_n dX4_orders_47 rfl 1 rfl ?_
    refine zs_iconst (v := (1 : Int32)) dX4_orders_48 ci_1 ?_
    refine zs_icmp_ne (tgt := 56) dX4_orders_49 (by decide) ?_ ?_
    · refine zs_ldc2 (v := (2 : Int64)) dX4_orders_56 kc_X4_75 ?_
      exact zs_lret dX4_orders_59 rfl rfl rfl
    · refine zs_lconst (v := (1 : Int64)) dX4_orders_52 rfl ?_
      refine zs_goto (tgt := 59) dX4_orders_53 (by decide) ?_
      exact zs_lret dX4_orders_59 rfl rfl rfl
def f_X4_orders_11 (m : zz_Mem)  : Nat → Int32 → Int32 → Int32 → Option Int64
  | 0, _, _, _ => none
  | n + 1, v1, v2, v3 =>
  if v1 ≤ v3 then (
  f_X4_orders_42 m v1 v2)
  else (
  zz_ix v3 3 <|
  zz_ix (v3 - (1 : Int32)) 3 <|
  if (m.1 97 v3.toNatClampNeg) = (m.1 97 (v3 - (1 : Int32)).toNatClampNeg) then (
  zz_letI (v2 + (1 : Int32)) fun x2 =>
  zz_letI (v3 + (1 : Int32)) fun x3 =>
  f_X4_orders_11 m n v1 x2 x3)
  else (
  zz_letI (v3 + (1 : Int32)) fun x1 =>
  f_X4_orders_11 m n v1 v2 x1))
theorem t_X4_orders_11 {l : Launch} {G : zz_G} (hN : 107 ≤ zz_N G) {m : zz_Mem}  : ∀ (n : Nat) (v1 : Int32) (v2 : Int32) (v3 : Int32), zz_Sim zz_sh l G mX4_orders 0 zz_vJr (zz_mC m) (f_X4_orders_11 m n v1 v2 v3) 11 [(0, .ref (zz_a G 96)), (1, .int v1), (2, .int v2), (3, .int v3)] [] m := by
  intro n
  induction n with
  | zero => intro _ _ _; exact zs_none
  | succ n ih =>
    intro v1 v2 v3
    rw [f_X4_orders_11]
    refine zs_iload_n dX4_orders_11 rfl 3 rfl ?_
    refine zs_iload_n dX4_orders_12 rfl 1 rfl ?_
    refine zs_icmp_ge (tgt := 42) dX4_orders_13 (by decide) ?_ ?_
    · refine zs_sub [1, 2] rfl ?_
      exact t_X4_orders_42 hN _ _
    · refine zs_aload_n dX4_orders_16 rfl 0 rfl ?_
      refine zs_getR fl_X4_9 dX4_orders_17 (sh_96 hN) rfl ?_
      refine zs_iload_n dX4_orders_20 rfl 3 rfl ?_
      refine zs_ialdG dX4_orders_21 (sh_97 hN) ?_
      refine zs_aload_n dX4_orders_22 rfl 0 rfl ?_
      refine zs_getR fl_X4_9 dX4_orders_23 (sh_96 hN) rfl ?_
      refine zs_iload_n dX4_orders_26 rfl 3 rfl ?_
      refine zs_iconst (v := (1 : Int32)) dX4_orders_27 ci_1 ?_
      refine zs_isub dX4_orders_28 ?_
      refine zs_ialdG dX4_orders_29 (sh_97 hN) ?_
      refine zs_icmp_ne (tgt := 36) dX4_orders_30 (by decide) ?_ ?_
      · refine zs_iinc (fun y => [(3, .int y), (0, .ref (zz_a G 96)), (1, .int v1), (2, .int v2)]) dX4_orders_36 3 rfl ci_1 (Nat.le_of_ble_eq_true rfl) (fun _ => rfl) (fun x1 => ?_)
        refine zs_goto (tgt := 11) dX4_orders_39 (by decide) ?_
        refine zs_sub [1, 2, 3, 0] rfl ?_
        exact ih _ _ _
      · refine zs_iinc (fun y => [(2, .int y), (0, .ref (zz_a G 96)), (1, .int v1), (3, .int v3)]) dX4_orders_33 2 rfl ci_1 (Nat.le_of_ble_eq_true rfl) (fun _ => rfl) (fun x2 => ?_)
        refine zs_iinc (fun y => [(3, .int y), (2, .int x2), (0, .ref (zz_a G 96)), (1, .int v1)]) dX4_orders_36 3 rfl ci_1 (Nat.le_of_ble_eq_true rfl) (fun _ => rfl) (fun x3 => ?_)
        refine zs_goto (tgt := 11) dX4_orders_39 (by decide) ?_
        refine zs_sub [2, 3, 1, 0] rfl ?_
        exact ih _ _ _
def f_X4_orders (m : zz_Mem) (p1 : Int32) : Option Int64 :=
  if (2 : Int32) ≤ p1 then (
  f_X4_orders_11 m zz_fuel p1 (0 : Int32) (1 : Int32))
  else (
  some (1 : Int64))
theorem k_X4_orders {l : Launch} {G : zz_G} (hN : 107 ≤ zz_N G) : ∀ (p1 : Int32) (m : zz_Mem), zz_Con zz_sh l G mX4_orders 0 [.ref (zz_a G 96), .int p1] zz_vJr (zz_mC m) (f_X4_orders m p1) m := by
  intro p1 m
  refine zz_con (lv := [(0, .ref (zz_a G 96)), (1, .int p1)]) (by decide +kernel) (Nat.le_of_ble_eq_true rfl) rfl ?_
  unfold f_X4_orders
  refine zs_iload_n dX4_orders_0 rfl 1 rfl ?_
  refine zs_iconst (v := (2 : Int32)) dX4_orders_1 ci_2 ?_
  refine zs_icmp_ge (tgt := 7) dX4_orders_2 (by decide) ?_ ?_
  · refine zs_iconst (v := (0 : Int32)) dX4_orders_7 ci_0 ?_
    refine zs_istore_n [(2, .int (0 : Int32)), (0, .ref (zz_a G 96)), (1, .int p1)] dX4_orders_8 rfl (Nat.le_of_ble_eq_true rfl) rfl ?_
    refine zs_iconst (v := (1 : Int32)) dX4_orders_9 ci_1 ?_
    refine zs_istore_n [(3, .int (1 : Int32)), (2, .int (0 : Int32)), (0, .ref (zz_a G 96)), (1, .int p1)] dX4_orders_10 rfl (Nat.le_of_ble_eq_true rfl) rfl ?_
    refine zs_sub [2, 3, 1, 0] rfl ?_
    exact t_X4_orders_11 hN zz_fuel _ _ _
  · refine zs_lconst (v := (1 : Int64)) dX4_orders_5 rfl ?_
    exact zs_lret dX4_orders_6 rfl rfl rfl
/-! X4_drawInOrder: PillarDesk$Odds.drawInOrder(III)Z -/
theorem dX4_drawInOrder_0 : decode cX4_drawInOrder 0 = .ok (.iload_n 1, 1) := by decide +kernel
theorem dX4_drawInOrder_1 : decode cX4_drawInOrder 1 = .ok (.istore 4, 2) := by decide +kernel
theorem dX4_drawInOrder_3 : decode cX4_drawInOrder 3 = .ok (.iconst 0, 1) := by decide +kernel
theorem dX4_drawInOrder_4 : decode cX4_drawInOrder 4 = .ok (.istore 5, 2) := by decide +kernel
theorem dX4_drawInOrder_6 : decode cX4_drawInOrder 6 = .ok (.iload 5, 2) := by decide +kernel
theorem dX4_drawInOrder_8 : decode cX4_drawInOrder 8 = .ok (.iload_n 3, 1) := by decide +kernel
theorem dX4_drawInOrder_9 : decode cX4_drawInOrder 9 = .ok (.if_icmp .ge 62, 3) := by decide +kernel
theorem dX4_drawInOrder_12 : decode cX4_drawInOrder 12 = .ok (.iload 5, 2) := by decide +kernel
theorem dX4_drawInOrder_14 : decode cX4_drawInOrder 14 = .ok (.iconst 3, 1) := by decide +kernel
theorem dX4_drawInOrder_15 : decode cX4_drawInOrder 15 = .ok (.if_icmp .ge 56, 3) := by decide +kernel
theorem dX4_drawInOrder_18 : decode cX4_drawInOrder 18 = .ok (.iload_n 2, 1) := by decide +kernel
theorem dX4_drawInOrder_19 : decode cX4_drawInOrder 19 = .ok (.ifCond .le 52, 3) := by decide +kernel
theorem dX4_drawInOrder_22 : decode cX4_drawInOrder 22 = .ok (.aload_n 0, 1) := by decide +kernel
theorem dX4_drawInOrder_23 : decode cX4_drawInOrder 23 = .ok (.getfield 9, 3) := by decide +kernel
theorem dX4_drawInOrder_26 : decode cX4_drawInOrder 26 = .ok (.iload 5, 2) := by decide +kernel
theorem dX4_drawInOrder_28 : decode cX4_drawInOrder 28 = .ok (.iload 4, 2) := by decide +kernel
theorem dX4_drawInOrder_30 : decode cX4_drawInOrder 30 = .ok (.iload_n 2, 1) := by decide +kernel
theorem dX4_drawInOrder_31 : decode cX4_drawInOrder 31 = .ok (.irem, 1) := by decide +kernel
theorem dX4_drawInOrder_32 : decode cX4_drawInOrder 32 = .ok (.iastore, 1) := by decide +kernel
theorem dX4_drawInOrder_33 : decode cX4_drawInOrder 33 = .ok (.iload 4, 2) := by decide +kernel
theorem dX4_drawInOrder_35 : decode cX4_drawInOrder 35 = .ok (.iload_n 2, 1) := by decide +kernel
theorem dX4_drawInOrder_36 : decode cX4_drawInOrder 36 = .ok (.idiv, 1) := by decide +kernel
theorem dX4_drawInOrder_37 : decode cX4_drawInOrder 37 = .ok (.istore 4, 2) := by decide +kernel
theorem dX4_drawInOrder_39 : decode cX4_drawInOrder 39 = .ok (.iload 5, 2) := by decide +kernel
theorem dX4_drawInOrder_41 : decode cX4_drawInOrder 41 = .ok (.ifCond .le 24, 3) := by decide +kernel
theorem dX4_drawInOrder_44 : decode cX4_drawInOrder 44 = .ok (.aload_n 0, 1) := by decide +kernel
theorem dX4_drawInOrder_45 : decode cX4_drawInOrder 45 = .ok (.getfield 9, 3) := by decide +kernel
theorem dX4_drawInOrder_48 : decode cX4_drawInOrder 48 = .ok (.iload 5, 2) := by decide +kernel
theorem dX4_drawInOrder_50 : decode cX4_drawInOrder 50 = .ok (.iaload, 1) := by decide +kernel
theorem dX4_drawInOrder_51 : decode cX4_drawInOrder 51 = .ok (.aload_n 0, 1) := by decide +kernel
theorem dX4_drawInOrder_52 : decode cX4_drawInOrder 52 = .ok (.getfield 9, 3) := by decide +kernel
theorem dX4_drawInOrder_55 : decode cX4_drawInOrder 55 = .ok (.iload 5, 2) := by decide +kernel
theorem dX4_drawInOrder_57 : decode cX4_drawInOrder 57 = .ok (.iconst 1, 1) := by decide +kernel
theorem dX4_drawInOrder_58 : decode cX4_drawInOrder 58 = .ok (.isub, 1) := by decide +kernel
theorem dX4_drawInOrder_59 : decode cX4_drawInOrder 59 = .ok (.iaload, 1) := by decide +kernel
theorem dX4_drawInOrder_60 : decode cX4_drawInOrder 60 = .ok (.if_icmp .ge 5, 3) := by decide +kernel
theorem dX4_drawInOrder_63 : decode cX4_drawInOrder 63 = .ok (.iconst 0, 1) := by decide +kernel
theorem dX4_drawInOrder_64 : decode cX4_drawInOrder 64 = .ok (.ireturn, 1) := by decide +kernel
theorem dX4_drawInOrder_65 : decode cX4_drawInOrder 65 = .ok (.iinc 5 1, 3) := by decide +kernel
theorem dX4_drawInOrder_68 : decode cX4_drawInOrder 68 = .ok (.goto (-62), 3) := by decide +kernel
theorem dX4_drawInOrder_71 : decode cX4_drawInOrder 71 = .ok (.iconst 1, 1) := by decide +kernel
theorem dX4_drawInOrder_72 : decode cX4_drawInOrder 72 = .ok (.ireturn, 1) := by decide +kernel
def f_X4_drawInOrder_6   : Nat → Int32 → Int32 → Int32 → Int32 → zz_Mem → Option (Int32 × zz_Mem)
  | 0, _, _, _, _, _ => none
  | n + 1, v2, v3, v4, v5, m =>
  if v3 ≤ v5 then (
  some ((1 : Int32), m))
  else (
  if (3 : Int32) ≤ v5 then (
  some ((1 : Int32), m))
  else (
  if v2 ≤ 0 then (
  some ((1 : Int32), m))
  else (
  zz_nz v2 <|
  zz_ix v5 3 <| zz_letM (zz_setI m 97 v5.toNatClampNeg (v4 - v4 / v2 * v2)) fun m1 =>
  zz_nz v2 <|
  zz_letI (v4 / v2) fun x2 =>
  if v5 ≤ 0 then (
  zz_letI (v5 + (1 : Int32)) fun x3 =>
  f_X4_drawInOrder_6 n v2 v3 x2 x3 m1)
  else (
  zz_ix v5 3 <|
  zz_ix (v5 - (1 : Int32)) 3 <|
  if (m1.1 97 (v5 - (1 : Int32)).toNatClampNeg) ≤ (m1.1 97 v5.toNatClampNeg) then (
  zz_letI (v5 + (1 : Int32)) fun x4 =>
  f_X4_drawInOrder_6 n v2 v3 x2 x4 m1)
  else (
  some ((0 : Int32), m1))))))
theorem t_X4_drawInOrder_6 {l : Launch} {G : zz_G} (hN : 107 ≤ zz_N G)  : ∀ (n : Nat) (v2 : Int32) (v3 : Int32) (v4 : Int32) (v5 : Int32) (m : zz_Mem), zz_Sim zz_sh l G mX4_drawInOrder 0 zz_vI zz_m2 (f_X4_drawInOrder_6 n v2 v3 v4 v5 m) 6 [(0, .ref (zz_a G 96)), (2, .int v2), (3, .int v3), (4, .int v4), (5, .int v5)] [] m := by
  intro n
  induction n with
  | zero => intro _ _ _ _ _; exact zs_none
  | succ n ih =>
    intro v2 v3 v4 v5 m
    rw [f_X4_drawInOrder_6]
    refine zs_iload dX4_drawInOrder_6 4 rfl ?_
    refine zs_iload_n dX4_drawInOrder_8 rfl 2 rfl ?_
    refine zs_icmp_ge (tgt := 71) dX4_drawInOrder_9 (by decide) ?_ ?_
    · refine zs_iconst (v := (1 : Int32)) dX4_drawInOrder_71 ci_1 ?_
      exact zs_zret dX4_drawInOrder_72 rfl rfl rfl rfl
    · refine zs_iload dX4_drawInOrder_12 4 rfl ?_
      refine zs_iconst (v := (3 : Int32)) dX4_drawInOrder_14 ci_3 ?_
      refine zs_icmp_ge (tgt := 71) dX4_drawInOrder_15 (by decide) ?_ ?_
      · refine zs_iconst (v := (1 : Int32)) dX4_drawInOrder_71 ci_1 ?_
        exact zs_zret dX4_drawInOrder_72 rfl rfl rfl rfl
      · refine zs_iload_n dX4_drawInOrder_18 rfl 1 rfl ?_
        refine zs_if_le (tgt := 71) dX4_drawInOrder_19 (by decide) ?_ ?_
        · refine zs_iconst (v := (1 : Int32)) dX4_drawInOrder_71 ci_1 ?_
          exact zs_zret dX4_drawInOrder_72 rfl rfl rfl rfl
        · refine zs_aload_n dX4_drawInOrder_22 rfl 0 rfl ?_
          refine zs_getR fl_X4_9 dX4_drawInOrder_23 (sh_96 hN) rfl ?_
          refine zs_iload dX4_drawInOrder_26 4 rfl ?_
          refine zs_iload dX4_drawInOrder_28 3 rfl ?_
          refine zs_iload_n dX4_drawInOrder_30 rfl 1 rfl ?_
          refine zs_iremG dX4_drawInOrder_31 ?_
          refine zs_iastG dX4_drawInOrder_32 (sh_97 hN) (fun m1 => ?_)
          refine zs_iload dX4_drawInOrder_33 3 rfl ?_
          refine zs_iload_n dX4_drawInOrder_35 rfl 1 rfl ?_
          refine zs_idivG dX4_drawInOrder_36 ?_
          refine zs_letI (fun x2 => ?_)
          refine zs_istore [(4, .int x2), (0, .ref (zz_a G 96)), (2, .int v2), (3, .int v3), (5, .int v5)] dX4_drawInOrder_37 (Nat.le_of_ble_eq_true rfl) rfl ?_
          refine zs_iload dX4_drawInOrder_39 4 rfl ?_
          refine zs_if_le (tgt := 65) dX4_drawInOrder_41 (by decide) ?_ ?_
          · refine zs_iinc (fun y => [(5, .int y), (4, .int x2), (0, .ref (zz_a G 96)), (2, .int v2), (3, .int v3)]) dX4_drawInOrder_65 4 rfl ci_1 (Nat.le_of_ble_eq_true rfl) (fun _ => rfl) (fun x3 => ?_)
            refine zs_goto (tgt := 6) dX4_drawInOrder_68 (by decide) ?_
            refine zs_sub [2, 3, 4, 1, 0] rfl ?_
            exact ih _ _ _ _ _
          · refine zs_aload_n dX4_drawInOrder_44 rfl 1 rfl ?_
            refine zs_getR fl_X4_9 dX4_drawInOrder_45 (sh_96 hN) rfl ?_
            refine zs_iload dX4_drawInOrder_48 4 rfl ?_
            refine zs_ialdG dX4_drawInOrder_50 (sh_97 hN) ?_
            refine zs_aload_n dX4_drawInOrder_51 rfl 1 rfl ?_
            refine zs_getR fl_X4_9 dX4_drawInOrder_52 (sh_96 hN) rfl ?_
            refine zs_iload dX4_drawInOrder_55 4 rfl ?_
            refine zs_iconst (v := (1 : Int32)) dX4_drawInOrder_57 ci_1 ?_
            refine zs_isub dX4_drawInOrder_58 ?_
            refine zs_ialdG dX4_drawInOrder_59 (sh_97 hN) ?_
            refine zs_icmp_ge (tgt := 65) dX4_drawInOrder_60 (by decide) ?_ ?_
            · refine zs_iinc (fun y => [(5, .int y), (4, .int x2), (0, .ref (zz_a G 96)), (2, .int v2), (3, .int v3)]) dX4_drawInOrder_65 4 rfl ci_1 (Nat.le_of_ble_eq_true rfl) (fun _ => rfl) (fun x4 => ?_)
              refine zs_goto (tgt := 6) dX4_drawInOrder_68 (by decide) ?_
              refine zs_sub [2, 3, 4, 1, 0] rfl ?_
              exact ih _ _ _ _ _
            · refine zs_iconst (v := (0 : Int32)) dX4_drawInOrder_63 ci_0 ?_
              exact zs_zret dX4_drawInOrder_64 rfl rfl rfl rfl
def f_X4_drawInOrder  (p1 : Int32) (p2 : Int32) (p3 : Int32) (m : zz_Mem) : Option (Int32 × zz_Mem) :=
  f_X4_drawInOrder_6 zz_fuel p2 p3 p1 (0 : Int32) m
theorem k_X4_drawInOrder {l : Launch} {G : zz_G} (hN : 107 ≤ zz_N G) : ∀ (p1 : Int32) (p2 : Int32) (p3 : Int32) (m : zz_Mem), zz_Con zz_sh l G mX4_drawInOrder 0 [.ref (zz_a G 96), .int p1, .int p2, .int p3] zz_vI zz_m2 (f_X4_drawInOrder p1 p2 p3 m) m := by
  intro p1 p2 p3 m
  refine zz_con (lv := [(0, .ref (zz_a G 96)), (1, .int p1), (2, .int p2), (3, .int p3)]) (by decide +kernel) (Nat.le_of_ble_eq_true rfl) rfl ?_
  unfold f_X4_drawInOrder
  refine zs_iload_n dX4_drawInOrder_0 rfl 1 rfl ?_
  refine zs_istore [(4, .int p1), (0, .ref (zz_a G 96)), (1, .int p1), (2, .int p2), (3, .int p3)] dX4_drawInOrder_1 (Nat.le_of_ble_eq_true rfl) rfl ?_
  refine zs_iconst (v := (0 : Int32)) dX4_drawInOrder_3 ci_0 ?_
  refine zs_istore [(5, .int (0 : Int32)), (4, .int p1), (0, .ref (zz_a G 96)), (1, .int p1), (2, .int p2), (3, .int p3)] dX4_drawInOrder_4 (Nat.le_of_ble_eq_true rfl) rfl ?_
  refine zs_sub [2, 4, 5, 1, 0] rfl ?_
  exact t_X4_drawInOrder_6 hN zz_fuel _ _ _ _ _
/-! X4_addDraw: PillarDesk$Odds.addDraw(IIJ)V -/
theorem dX4_addDraw_0 : decode cX4_addDraw 0 = .ok (.aload_n 0, 1) := by decide +kernel
theorem dX4_addDraw_1 : decode cX4_addDraw 1 = .ok (.getfield 23, 3) := by decide +kernel
theorem dX4_addDraw_4 : decode cX4_addDraw 4 = .ok (.aload_n 0, 1) := by decide +kernel
theorem dX4_addDraw_5 : decode cX4_addDraw 5 = .ok (.getfield 19, 3) := by decide +kernel
theorem dX4_addDraw_8 : decode cX4_addDraw 8 = .ok (.invokevirtual 50, 3) := by decide +kernel
theorem dX4_addDraw_11 : decode cX4_addDraw 11 = .ok (.aload_n 0, 1) := by decide +kernel
theorem dX4_addDraw_12 : decode cX4_addDraw 12 = .ok (.iload_n 2, 1) := by decide +kernel
theorem dX4_addDraw_13 : decode cX4_addDraw 13 = .ok (.invokevirtual 56, 3) := by decide +kernel
theorem dX4_addDraw_16 : decode cX4_addDraw 16 = .ok (.lstore 5, 2) := by decide +kernel
theorem dX4_addDraw_18 : decode cX4_addDraw 18 = .ok (.iconst 0, 1) := by decide +kernel
theorem dX4_addDraw_19 : decode cX4_addDraw 19 = .ok (.istore 7, 2) := by decide +kernel
theorem dX4_addDraw_21 : decode cX4_addDraw 21 = .ok (.iload 7, 2) := by decide +kernel
theorem dX4_addDraw_23 : decode cX4_addDraw 23 = .ok (.iload_n 2, 1) := by decide +kernel
theorem dX4_addDraw_24 : decode cX4_addDraw 24 = .ok (.if_icmp .ge 64, 3) := by decide +kernel
theorem dX4_addDraw_27 : decode cX4_addDraw 27 = .ok (.aload_n 0, 1) := by decide +kernel
theorem dX4_addDraw_28 : decode cX4_addDraw 28 = .ok (.getfield 9, 3) := by decide +kernel
theorem dX4_addDraw_31 : decode cX4_addDraw 31 = .ok (.iload 7, 2) := by decide +kernel
theorem dX4_addDraw_33 : decode cX4_addDraw 33 = .ok (.iaload, 1) := by decide +kernel
theorem dX4_addDraw_34 : decode cX4_addDraw 34 = .ok (.aload_n 0, 1) := by decide +kernel
theorem dX4_addDraw_35 : decode cX4_addDraw 35 = .ok (.getfield 15, 3) := by decide +kernel
theorem dX4_addDraw_38 : decode cX4_addDraw 38 = .ok (.getfield 36, 3) := by decide +kernel
theorem dX4_addDraw_41 : decode cX4_addDraw 41 = .ok (.if_icmp .ge 25, 3) := by decide +kernel
theorem dX4_addDraw_44 : decode cX4_addDraw 44 = .ok (.aload_n 0, 1) := by decide +kernel
theorem dX4_addDraw_45 : decode cX4_addDraw 45 = .ok (.getfield 23, 3) := by decide +kernel
theorem dX4_addDraw_48 : decode cX4_addDraw 48 = .ok (.getfield 60, 3) := by decide +kernel
theorem dX4_addDraw_51 : decode cX4_addDraw 51 = .ok (.aload_n 0, 1) := by decide +kernel
theorem dX4_addDraw_52 : decode cX4_addDraw 52 = .ok (.getfield 9, 3) := by decide +kernel
theorem dX4_addDraw_55 : decode cX4_addDraw 55 = .ok (.iload 7, 2) := by decide +kernel
theorem dX4_addDraw_57 : decode cX4_addDraw 57 = .ok (.iaload, 1) := by decide +kernel
theorem dX4_addDraw_58 : decode cX4_addDraw 58 = .ok (.dup2, 1) := by decide +kernel
theorem dX4_addDraw_59 : decode cX4_addDraw 59 = .ok (.iaload, 1) := by decide +kernel
theorem dX4_addDraw_60 : decode cX4_addDraw 60 = .ok (.iload_n 1, 1) := by decide +kernel
theorem dX4_addDraw_61 : decode cX4_addDraw 61 = .ok (.iadd, 1) := by decide +kernel
theorem dX4_addDraw_62 : decode cX4_addDraw 62 = .ok (.iastore, 1) := by decide +kernel
theorem dX4_addDraw_63 : decode cX4_addDraw 63 = .ok (.goto 19, 3) := by decide +kernel
theorem dX4_addDraw_66 : decode cX4_addDraw 66 = .ok (.lload 5, 2) := by decide +kernel
theorem dX4_addDraw_68 : decode cX4_addDraw 68 = .ok (.bipush 10, 2) := by decide +kernel
theorem dX4_addDraw_70 : decode cX4_addDraw 70 = .ok (.aload_n 0, 1) := by decide +kernel
theorem dX4_addDraw_71 : decode cX4_addDraw 71 = .ok (.getfield 15, 3) := by decide +kernel
theorem dX4_addDraw_74 : decode cX4_addDraw 74 = .ok (.getfield 36, 3) := by decide +kernel
theorem dX4_addDraw_77 : decode cX4_addDraw 77 = .ok (.isub, 1) := by decide +kernel
theorem dX4_addDraw_78 : decode cX4_addDraw 78 = .ok (.i2l, 1) := by decide +kernel
theorem dX4_addDraw_79 : decode cX4_addDraw 79 = .ok (.lmul, 1) := by decide +kernel
theorem dX4_addDraw_80 : decode cX4_addDraw 80 = .ok (.lstore 5, 2) := by decide +kernel
theorem dX4_addDraw_82 : decode cX4_addDraw 82 = .ok (.iinc 7 1, 3) := by decide +kernel
theorem dX4_addDraw_85 : decode cX4_addDraw 85 = .ok (.goto (-64), 3) := by decide +kernel
theorem dX4_addDraw_88 : decode cX4_addDraw 88 = .ok (.iconst 0, 1) := by decide +kernel
theorem dX4_addDraw_89 : decode cX4_addDraw 89 = .ok (.istore 7, 2) := by decide +kernel
theorem dX4_addDraw_91 : decode cX4_addDraw 91 = .ok (.iload 7, 2) := by decide +kernel
theorem dX4_addDraw_93 : decode cX4_addDraw 93 = .ok (.aload_n 0, 1) := by decide +kernel
theorem dX4_addDraw_94 : decode cX4_addDraw 94 = .ok (.getfield 15, 3) := by decide +kernel
theorem dX4_addDraw_97 : decode cX4_addDraw 97 = .ok (.getfield 36, 3) := by decide +kernel
theorem dX4_addDraw_100 : decode cX4_addDraw 100 = .ok (.if_icmp .ge 32, 3) := by decide +kernel
theorem dX4_addDraw_103 : decode cX4_addDraw 103 = .ok (.aload_n 0, 1) := by decide +kernel
theorem dX4_addDraw_104 : decode cX4_addDraw 104 = .ok (.getfield 23, 3) := by decide +kernel
theorem dX4_addDraw_107 : decode cX4_addDraw 107 = .ok (.getfield 60, 3) := by decide +kernel
theorem dX4_addDraw_110 : decode cX4_addDraw 110 = .ok (.iload 7, 2) := by decide +kernel
theorem dX4_addDraw_112 : decode cX4_addDraw 112 = .ok (.aload_n 0, 1) := by decide +kernel
theorem dX4_addDraw_113 : decode cX4_addDraw 113 = .ok (.getfield 23, 3) := by decide +kernel
theorem dX4_addDraw_116 : decode cX4_addDraw 116 = .ok (.getfield 60, 3) := by decide +kernel
theorem dX4_addDraw_119 : decode cX4_addDraw 119 = .ok (.iload 7, 2) := by decide +kernel
theorem dX4_addDraw_121 : decode cX4_addDraw 121 = .ok (.iaload, 1) := by decide +kernel
theorem dX4_addDraw_122 : decode cX4_addDraw 122 = .ok (.invokestatic 63, 3) := by decide +kernel
theorem dX4_addDraw_125 : decode cX4_addDraw 125 = .ok (.iastore, 1) := by decide +kernel
theorem dX4_addDraw_126 : decode cX4_addDraw 126 = .ok (.iinc 7 1, 3) := by decide +kernel
theorem dX4_addDraw_129 : decode cX4_addDraw 129 = .ok (.goto (-38), 3) := by decide +kernel
theorem dX4_addDraw_132 : decode cX4_addDraw 132 = .ok (.aload_n 0, 1) := by decide +kernel
theorem dX4_addDraw_133 : decode cX4_addDraw 133 = .ok (.getfield 23, 3) := by decide +kernel
theorem dX4_addDraw_136 : decode cX4_addDraw 136 = .ok (.iconst 1, 1) := by decide +kernel
theorem dX4_addDraw_137 : decode cX4_addDraw 137 = .ok (.invokevirtual 67, 3) := by decide +kernel
theorem dX4_addDraw_140 : decode cX4_addDraw 140 = .ok (.aload_n 0, 1) := by decide +kernel
theorem dX4_addDraw_141 : decode cX4_addDraw 141 = .ok (.getfield 23, 3) := by decide +kernel
theorem dX4_addDraw_144 : decode cX4_addDraw 144 = .ok (.invokevirtual 71, 3) := by decide +kernel
theorem dX4_addDraw_147 : decode cX4_addDraw 147 = .ok (.lstore 7, 2) := by decide +kernel
theorem dX4_addDraw_149 : decode cX4_addDraw 149 = .ok (.aload_n 0, 1) := by decide +kernel
theorem dX4_addDraw_150 : decode cX4_addDraw 150 = .ok (.dup, 1) := by decide +kernel
theorem dX4_addDraw_151 : decode cX4_addDraw 151 = .ok (.getfield 30, 3) := by decide +kernel
theorem dX4_addDraw_154 : decode cX4_addDraw 154 = .ok (.lload 5, 2) := by decide +kernel
theorem dX4_addDraw_156 : decode cX4_addDraw 156 = .ok (.ladd, 1) := by decide +kernel
theorem dX4_addDraw_157 : decode cX4_addDraw 157 = .ok (.putfield 30, 3) := by decide +kernel
theorem dX4_addDraw_160 : decode cX4_addDraw 160 = .ok (.aload_n 0, 1) := by decide +kernel
theorem dX4_addDraw_161 : decode cX4_addDraw 161 = .ok (.dup, 1) := by decide +kernel
theorem dX4_addDraw_162 : decode cX4_addDraw 162 = .ok (.getfield 33, 3) := by decide +kernel
theorem dX4_addDraw_165 : decode cX4_addDraw 165 = .ok (.lload 5, 2) := by decide +kernel
theorem dX4_addDraw_167 : decode cX4_addDraw 167 = .ok (.lload 7, 2) := by decide +kernel
theorem dX4_addDraw_169 : decode cX4_addDraw 169 = .ok (.lmul, 1) := by decide +kernel
theorem dX4_addDraw_170 : decode cX4_addDraw 170 = .ok (.ladd, 1) := by decide +kernel
theorem dX4_addDraw_171 : decode cX4_addDraw 171 = .ok (.putfield 33, 3) := by decide +kernel
theorem dX4_addDraw_174 : decode cX4_addDraw 174 = .ok (.lload 7, 2) := by decide +kernel
theorem dX4_addDraw_176 : decode cX4_addDraw 176 = .ok (.lload_n 3, 1) := by decide +kernel
theorem dX4_addDraw_177 : decode cX4_addDraw 177 = .ok (.lcmp, 1) := by decide +kernel
theorem dX4_addDraw_178 : decode cX4_addDraw 178 = .ok (.ifCond .ge 14, 3) := by decide +kernel
theorem dX4_addDraw_181 : decode cX4_addDraw 181 = .ok (.aload_n 0, 1) := by decide +kernel
theorem dX4_addDraw_182 : decode cX4_addDraw 182 = .ok (.dup, 1) := by decide +kernel
theorem dX4_addDraw_183 : decode cX4_addDraw 183 = .ok (.getfield 26, 3) := by decide +kernel
theorem dX4_addDraw_186 : decode cX4_addDraw 186 = .ok (.lload 5, 2) := by decide +kernel
theorem dX4_addDraw_188 : decode cX4_addDraw 188 = .ok (.ladd, 1) := by decide +kernel
theorem dX4_addDraw_189 : decode cX4_addDraw 189 = .ok (.putfield 26, 3) := by decide +kernel
theorem dX4_addDraw_192 : decode cX4_addDraw 192 = .ok (.return_, 1) := by decide +kernel
def f_X4_addDraw_132   (v3 : Int64) (v5 : Int64) (m : zz_Mem) : Option zz_Mem :=
  zz_bndR (f_X1_solve 88 (1 : Int32) m) fun m1 =>
  zz_bndR (f_X1_bookWorth 88 m1) fun r2 =>
  zz_letM (zz_setJ m1 96 5 ((m1.2.1 96 5) + v5)) fun m3 =>
  zz_letM (zz_setJ m3 96 6 ((m3.2.1 96 6) + (v5 * r2))) fun m4 =>
  if v3 ≤ r2 then (
  some m4)
  else (
  zz_letM (zz_setJ m4 96 4 ((m4.2.1 96 4) + v5)) fun m5 =>
  some m5)
theorem t_X4_addDraw_132 {l : Launch} {G : zz_G} (hN : 107 ≤ zz_N G)  : ∀ (v3 : Int64) (v5 : Int64) (m : zz_Mem), zz_Sim zz_sh l G mX4_addDraw 5 zz_vV zz_mV (f_X4_addDraw_132 v3 v5 m) 132 [(0, .ref (zz_a G 96)), (3, .long v3), (5, .long v5)] [] m := by
  intro v3 v5 m
  unfold f_X4_addDraw_132
  refine zs_aload_n dX4_addDraw_132 rfl 0 rfl ?_
  refine zs_getR fl_X4_23 dX4_addDraw_133 (sh_96 hN) rfl ?_
  refine zs_iconst (v := (1 : Int32)) dX4_addDraw_136 ci_1 ?_
  refine zs_cV_vW (rest := []) (k_X1_solve hN ((isCurve_88 hN)) _ _) dX4_addDraw_137 lv_X4_67 ok_X1_solve (zz_rcv_o (sh_88 hN) rfl) (Nat.le_of_ble_eq_true rfl) rfl rfl (Nat.le_of_ble_eq_true rfl) (fun m1 => ?_)
  refine zs_aload_n dX4_addDraw_140 rfl 0 rfl ?_
  refine zs_getR fl_X4_23 dX4_addDraw_141 (sh_96 hN) rfl ?_
  refine zs_cV_jR (rest := []) (k_X1_bookWorth hN ((isCurve_88 hN))  _) dX4_addDraw_144 lv_X4_71 ok_X1_bookWorth (zz_rcv_o (sh_88 hN) rfl) (Nat.le_of_ble_eq_true rfl) rfl rfl (Nat.le_of_ble_eq_true rfl) (fun r2 => ?_)
  refine zs_lstore [(7, .long r2), (0, .ref (zz_a G 96)), (3, .long v3), (5, .long v5)] dX4_addDraw_147 (Nat.le_of_ble_eq_true rfl) rfl ?_
  refine zs_aload_n dX4_addDraw_149 rfl 1 rfl ?_
  refine zs_dup dX4_addDraw_150 rfl ?_
  refine zs_getJ fl_X4_30 dX4_addDraw_151 (sh_96 hN) rfl ?_
  refine zs_lload dX4_addDraw_154 3 rfl ?_
  refine zs_ladd dX4_addDraw_156 ?_
  refine zs_putJ fl_X4_30 dX4_addDraw_157 (sh_96 hN) rfl ⟨rfl, rfl⟩ (fun m3 => ?_)
  refine zs_aload_n dX4_addDraw_160 rfl 1 rfl ?_
  refine zs_dup dX4_addDraw_161 rfl ?_
  refine zs_getJ fl_X4_33 dX4_addDraw_162 (sh_96 hN) rfl ?_
  refine zs_lload dX4_addDraw_165 3 rfl ?_
  refine zs_lload dX4_addDraw_167 0 rfl ?_
  refine zs_lmul dX4_addDraw_169 ?_
  refine zs_ladd dX4_addDraw_170 ?_
  refine zs_putJ fl_X4_33 dX4_addDraw_171 (sh_96 hN) rfl ⟨rfl, rfl⟩ (fun m4 => ?_)
  refine zs_lload dX4_addDraw_174 0 rfl ?_
  refine zs_lload_n dX4_addDraw_176 rfl 2 rfl ?_
  refine zs_lcmp_ge (tgt := 192) dX4_addDraw_177 dX4_addDraw_178 (by decide) ?_ ?_
  · exact zs_vret dX4_addDraw_192 rfl rfl rfl
  · refine zs_aload_n dX4_addDraw_181 rfl 1 rfl ?_
    refine zs_dup dX4_addDraw_182 rfl ?_
    refine zs_getJ fl_X4_26 dX4_addDraw_183 (sh_96 hN) rfl ?_
    refine zs_lload dX4_addDraw_186 3 rfl ?_
    refine zs_ladd dX4_addDraw_188 ?_
    refine zs_putJ fl_X4_26 dX4_addDraw_189 (sh_96 hN) rfl ⟨rfl, rfl⟩ (fun m5 => ?_)
    exact zs_vret dX4_addDraw_192 rfl rfl rfl
def f_X4_addDraw_91   : Nat → Int64 → Int64 → Int32 → zz_Mem → Option zz_Mem
  | 0, _, _, _, _ => none
  | n + 1, v3, v5, v7, m =>
  if (m.1 2 5) ≤ v7 then (
  f_X4_addDraw_132 v3 v5 m)
  else (
  zz_ix v7 8 <|
  zz_bndR (f_X11_inRateBounds (m.1 89 v7.toNatClampNeg)) fun r1 =>
  zz_ix v7 8 <| zz_letM (zz_setI m 89 v7.toNatClampNeg r1) fun m2 =>
  zz_letI (v7 + (1 : Int32)) fun x3 =>
  f_X4_addDraw_91 n v3 v5 x3 m2)
theorem t_X4_addDraw_91 {l : Launch} {G : zz_G} (hN : 107 ≤ zz_N G)  : ∀ (n : Nat) (v3 : Int64) (v5 : Int64) (v7 : Int32) (m : zz_Mem), zz_Sim zz_sh l G mX4_addDraw 5 zz_vV zz_mV (f_X4_addDraw_91 n v3 v5 v7 m) 91 [(0, .ref (zz_a G 96)), (3, .long v3), (5, .long v5), (7, .int v7)] [] m := by
  intro n
  induction n with
  | zero => intro _ _ _ _; exact zs_none
  | succ n ih =>
    intro v3 v5 v7 m
    rw [f_X4_addDraw_91]
    refine zs_iload dX4_addDraw_91 3 rfl ?_
    refine zs_aload_n dX4_addDraw_93 rfl 0 rfl ?_
    refine zs_getR fl_X4_15 dX4_addDraw_94 (sh_96 hN) rfl ?_
    refine zs_getI fl_X4_36 dX4_addDraw_97 (sh_2 hN) rfl ?_
    refine zs_icmp_ge (tgt := 132) dX4_addDraw_100 (by decide) ?_ ?_
    · refine zs_sub [0, 1, 2] rfl ?_
      exact t_X4_addDraw_132 hN _ _ _
    · refine zs_aload_n dX4_addDraw_103 rfl 0 rfl ?_
      refine zs_getR fl_X4_23 dX4_addDraw_104 (sh_96 hN) rfl ?_
      refine zs_getR fl_X4_60 dX4_addDraw_107 (sh_88 hN) rfl ?_
      refine zs_iload dX4_addDraw_110 3 rfl ?_
      refine zs_aload_n dX4_addDraw_112 rfl 0 rfl ?_
      refine zs_getR fl_X4_23 dX4_addDraw_113 (sh_96 hN) rfl ?_
      refine zs_getR fl_X4_60 dX4_addDraw_116 (sh_88 hN) rfl ?_
      refine zs_iload dX4_addDraw_119 3 rfl ?_
      refine zs_ialdG dX4_addDraw_121 (sh_89 hN) ?_
      refine zs_cN_iR (rest := [.int v7, .ref (zz_a G 89)]) (k_X11_inRateBounds hN _ _) dX4_addDraw_122 ln_X4_63 ok_X11_inRateBounds (Nat.le_of_ble_eq_true rfl) rfl rfl (Nat.le_of_ble_eq_true rfl) (fun r1 => ?_)
      refine zs_iastG dX4_addDraw_125 (sh_89 hN) (fun m2 => ?_)
      refine zs_iinc (fun y => [(7, .int y), (0, .ref (zz_a G 96)), (3, .long v3), (5, .long v5)]) dX4_addDraw_126 3 rfl ci_1 (Nat.le_of_ble_eq_true rfl) (fun _ => rfl) (fun x3 => ?_)
      refine zs_goto (tgt := 91) dX4_addDraw_129 (by decide) ?_
      refine zs_sub [1, 2, 3, 0] rfl ?_
      exact ih _ _ _ _
def f_X4_addDraw_21   : Nat → Int32 → Int32 → Int64 → Int64 → Int32 → zz_Mem → Option zz_Mem
  | 0, _, _, _, _, _, _ => none
  | n + 1, v1, v2, v3, v5, v7, m =>
  if v2 ≤ v7 then (
  f_X4_addDraw_91 zz_fuel v3 v5 (0 : Int32) m)
  else (
  zz_ix v7 3 <|
  if (m.1 2 5) ≤ (m.1 97 v7.toNatClampNeg) then (
  zz_letJ (v5 * (((10 : Int32) - (m.1 2 5)).toInt64)) fun y1 =>
  zz_letI (v7 + (1 : Int32)) fun x2 =>
  f_X4_addDraw_21 n v1 v2 v3 y1 x2 m)
  else (
  zz_ix v7 3 <|
  zz_ix (m.1 97 v7.toNatClampNeg) 8 <|
  zz_ix (m.1 97 v7.toNatClampNeg) 8 <| zz_letM (zz_setI m 89 (m.1 97 v7.toNatClampNeg).toNatClampNeg ((m.1 89 (m.1 97 v7.toNatClampNeg).toNatClampNeg) + v1)) fun m3 =>
  zz_letI (v7 + (1 : Int32)) fun x4 =>
  f_X4_addDraw_21 n v1 v2 v3 v5 x4 m3))
theorem t_X4_addDraw_21 {l : Launch} {G : zz_G} (hN : 107 ≤ zz_N G)  : ∀ (n : Nat) (v1 : Int32) (v2 : Int32) (v3 : Int64) (v5 : Int64) (v7 : Int32) (m : zz_Mem), zz_Sim zz_sh l G mX4_addDraw 5 zz_vV zz_mV (f_X4_addDraw_21 n v1 v2 v3 v5 v7 m) 21 [(0, .ref (zz_a G 96)), (1, .int v1), (2, .int v2), (3, .long v3), (5, .long v5), (7, .int v7)] [] m := by
  intro n
  induction n with
  | zero => intro _ _ _ _ _ _; exact zs_none
  | succ n ih =>
    intro v1 v2 v3 v5 v7 m
    rw [f_X4_addDraw_21]
    refine zs_iload dX4_addDraw_21 5 rfl ?_
    refine zs_iload_n dX4_addDraw_23 rfl 2 rfl ?_
    refine zs_icmp_ge (tgt := 88) dX4_addDraw_24 (by decide) ?_ ?_
    · refine zs_iconst (v := (0 : Int32)) dX4_addDraw_88 ci_0 ?_
      refine zs_istore [(7, .int (0 : Int32)), (0, .ref (zz_a G 96)), (1, .int v1), (2, .int v2), (3, .long v3), (5, .long v5)] dX4_addDraw_89 (Nat.le_of_ble_eq_true rfl) rfl ?_
      refine zs_sub [1, 4, 5, 0] rfl ?_
      exact t_X4_addDraw_91 hN zz_fuel _ _ _ _
    · refine zs_aload_n dX4_addDraw_27 rfl 0 rfl ?_
      refine zs_getR fl_X4_9 dX4_addDraw_28 (sh_96 hN) rfl ?_
      refine zs_iload dX4_addDraw_31 5 rfl ?_
      refine zs_ialdG dX4_addDraw_33 (sh_97 hN) ?_
      refine zs_aload_n dX4_addDraw_34 rfl 0 rfl ?_
      refine zs_getR fl_X4_15 dX4_addDraw_35 (sh_96 hN) rfl ?_
      refine zs_getI fl_X4_36 dX4_addDraw_38 (sh_2 hN) rfl ?_
      refine zs_icmp_ge (tgt := 66) dX4_addDraw_41 (by decide) ?_ ?_
      · refine zs_lload dX4_addDraw_66 4 rfl ?_
        refine zs_bipush (v := (10 : Int32)) dX4_addDraw_68 cb_10 ?_
        refine zs_aload_n dX4_addDraw_70 rfl 0 rfl ?_
        refine zs_getR fl_X4_15 dX4_addDraw_71 (sh_96 hN) rfl ?_
        refine zs_getI fl_X4_36 dX4_addDraw_74 (sh_2 hN) rfl ?_
        refine zs_isub dX4_addDraw_77 ?_
        refine zs_i2l dX4_addDraw_78 ?_
        refine zs_lmul dX4_addDraw_79 ?_
        refine zs_letJ (fun y1 => ?_)
        refine zs_lstore [(5, .long y1), (0, .ref (zz_a G 96)), (1, .int v1), (2, .int v2), (3, .long v3), (7, .int v7)] dX4_addDraw_80 (Nat.le_of_ble_eq_true rfl) rfl ?_
        refine zs_iinc (fun y => [(7, .int y), (5, .long y1), (0, .ref (zz_a G 96)), (1, .int v1), (2, .int v2), (3, .long v3)]) dX4_addDraw_82 5 rfl ci_1 (Nat.le_of_ble_eq_true rfl) (fun _ => rfl) (fun x2 => ?_)
        refine zs_goto (tgt := 21) dX4_addDraw_85 (by decide) ?_
        refine zs_sub [2, 3, 4, 5, 1, 0] rfl ?_
        exact ih _ _ _ _ _ _
      · refine zs_aload_n dX4_addDraw_44 rfl 0 rfl ?_
        refine zs_getR fl_X4_23 dX4_addDraw_45 (sh_96 hN) rfl ?_
        refine zs_getR fl_X4_60 dX4_addDraw_48 (sh_88 hN) rfl ?_
        refine zs_aload_n dX4_addDraw_51 rfl 0 rfl ?_
        refine zs_getR fl_X4_9 dX4_addDraw_52 (sh_96 hN) rfl ?_
        refine zs_iload dX4_addDraw_55 5 rfl ?_
        refine zs_ialdG dX4_addDraw_57 (sh_97 hN) ?_
        refine zs_dup2_11 dX4_addDraw_58 rfl rfl ?_
        refine zs_ialdG dX4_addDraw_59 (sh_89 hN) ?_
        refine zs_iload_n dX4_addDraw_60 rfl 1 rfl ?_
        refine zs_iadd dX4_addDraw_61 ?_
        refine zs_iastG dX4_addDraw_62 (sh_89 hN) (fun m3 => ?_)
        refine zs_goto (tgt := 82) dX4_addDraw_63 (by decide) ?_
        refine zs_iinc (fun y => [(7, .int y), (0, .ref (zz_a G 96)), (1, .int v1), (2, .int v2), (3, .long v3), (5, .long v5)]) dX4_addDraw_82 5 rfl ci_1 (Nat.le_of_ble_eq_true rfl) (fun _ => rfl) (fun x4 => ?_)
        refine zs_goto (tgt := 21) dX4_addDraw_85 (by decide) ?_
        refine zs_sub [1, 2, 3, 4, 5, 0] rfl ?_
        exact ih _ _ _ _ _ _
def f_X4_addDraw  (p1 : Int32) (p2 : Int32) (p3 : Int64) (m : zz_Mem) : Option zz_Mem :=
  zz_bndR (f_X1_copyFrom m) fun m1 =>
  zz_bndR (f_X4_orders m1 p2) fun r2 =>
  f_X4_addDraw_21 zz_fuel p1 p2 p3 r2 (0 : Int32) m1
theorem k_X4_addDraw {l : Launch} {G : zz_G} (hN : 107 ≤ zz_N G) : ∀ (p1 : Int32) (p2 : Int32) (p3 : Int64) (m : zz_Mem), zz_Con zz_sh l G mX4_addDraw 5 [.ref (zz_a G 96), .int p1, .int p2, .long p3] zz_vV zz_mV (f_X4_addDraw p1 p2 p3 m) m := by
  intro p1 p2 p3 m
  refine zz_con (lv := [(0, .ref (zz_a G 96)), (1, .int p1), (2, .int p2), (3, .long p3)]) (by decide +kernel) (Nat.le_of_ble_eq_true rfl) rfl ?_
  unfold f_X4_addDraw
  refine zs_aload_n dX4_addDraw_0 rfl 0 rfl ?_
  refine zs_getR fl_X4_23 dX4_addDraw_1 (sh_96 hN) rfl ?_
  refine zs_aload_n dX4_addDraw_4 rfl 0 rfl ?_
  refine zs_getR fl_X4_19 dX4_addDraw_5 (sh_96 hN) rfl ?_
  refine zs_cV_vW (rest := []) (k_X1_copyFrom hN  _) dX4_addDraw_8 lv_X4_50 ok_X1_copyFrom (zz_rcv_o (sh_88 hN) rfl) (Nat.le_of_ble_eq_true rfl) rfl rfl (Nat.le_of_ble_eq_true rfl) (fun m1 => ?_)
  refine zs_aload_n dX4_addDraw_11 rfl 0 rfl ?_
  refine zs_iload_n dX4_addDraw_12 rfl 2 rfl ?_
  refine zs_cV_jR (rest := []) (k_X4_orders hN _ _) dX4_addDraw_13 lv_X4_56 ok_X4_orders (zz_rcv_o (sh_96 hN) rfl) (Nat.le_of_ble_eq_true rfl) rfl rfl (Nat.le_of_ble_eq_true rfl) (fun r2 => ?_)
  refine zs_lstore [(5, .long r2), (0, .ref (zz_a G 96)), (1, .int p1), (2, .int p2), (3, .long p3)] dX4_addDraw_16 (Nat.le_of_ble_eq_true rfl) rfl ?_
  refine zs_iconst (v := (0 : Int32)) dX4_addDraw_18 ci_0 ?_
  refine zs_istore [(7, .int (0 : Int32)), (5, .long r2), (0, .ref (zz_a G 96)), (1, .int p1), (2, .int p2), (3, .long p3)] dX4_addDraw_19 (Nat.le_of_ble_eq_true rfl) rfl ?_
  refine zs_sub [2, 3, 4, 5, 1, 0] rfl ?_
  exact t_X4_addDraw_21 hN zz_fuel _ _ _ _ _ _
/-! X4_tally: PillarDesk$Odds.tally(IIJ)V -/
theorem dX4_tally_0 : decode cX4_tally 0 = .ok (.aload_n 0, 1) := by decide +kernel
theorem dX4_tally_1 : decode cX4_tally 1 = .ok (.lconst 0, 1) := by decide +kernel
theorem dX4_tally_2 : decode cX4_tally 2 = .ok (.putfield 26, 3) := by decide +kernel
theorem dX4_tally_5 : decode cX4_tally 5 = .ok (.aload_n 0, 1) := by decide +kernel
theorem dX4_tally_6 : decode cX4_tally 6 = .ok (.lconst 0, 1) := by decide +kernel
theorem dX4_tally_7 : decode cX4_tally 7 = .ok (.putfield 30, 3) := by decide +kernel
theorem dX4_tally_10 : decode cX4_tally 10 = .ok (.aload_n 0, 1) := by decide +kernel
theorem dX4_tally_11 : decode cX4_tally 11 = .ok (.lconst 0, 1) := by decide +kernel
theorem dX4_tally_12 : decode cX4_tally 12 = .ok (.putfield 33, 3) := by decide +kernel
theorem dX4_tally_15 : decode cX4_tally 15 = .ok (.aload_n 0, 1) := by decide +kernel
theorem dX4_tally_16 : decode cX4_tally 16 = .ok (.getfield 15, 3) := by decide +kernel
theorem dX4_tally_19 : decode cX4_tally 19 = .ok (.getfield 36, 3) := by decide +kernel
theorem dX4_tally_22 : decode cX4_tally 22 = .ok (.iconst 1, 1) := by decide +kernel
theorem dX4_tally_23 : decode cX4_tally 23 = .ok (.iadd, 1) := by decide +kernel
theorem dX4_tally_24 : decode cX4_tally 24 = .ok (.istore 5, 2) := by decide +kernel
theorem dX4_tally_26 : decode cX4_tally 26 = .ok (.iconst 1, 1) := by decide +kernel
theorem dX4_tally_27 : decode cX4_tally 27 = .ok (.istore 6, 2) := by decide +kernel
theorem dX4_tally_29 : decode cX4_tally 29 = .ok (.iconst 0, 1) := by decide +kernel
theorem dX4_tally_30 : decode cX4_tally 30 = .ok (.istore 7, 2) := by decide +kernel
theorem dX4_tally_32 : decode cX4_tally 32 = .ok (.iload 7, 2) := by decide +kernel
theorem dX4_tally_34 : decode cX4_tally 34 = .ok (.iload_n 2, 1) := by decide +kernel
theorem dX4_tally_35 : decode cX4_tally 35 = .ok (.if_icmp .ge 16, 3) := by decide +kernel
theorem dX4_tally_38 : decode cX4_tally 38 = .ok (.iload 6, 2) := by decide +kernel
theorem dX4_tally_40 : decode cX4_tally 40 = .ok (.iload 5, 2) := by decide +kernel
theorem dX4_tally_42 : decode cX4_tally 42 = .ok (.imul, 1) := by decide +kernel
theorem dX4_tally_43 : decode cX4_tally 43 = .ok (.istore 6, 2) := by decide +kernel
theorem dX4_tally_45 : decode cX4_tally 45 = .ok (.iinc 7 1, 3) := by decide +kernel
theorem dX4_tally_48 : decode cX4_tally 48 = .ok (.goto (-16), 3) := by decide +kernel
theorem dX4_tally_51 : decode cX4_tally 51 = .ok (.iconst 0, 1) := by decide +kernel
theorem dX4_tally_52 : decode cX4_tally 52 = .ok (.istore 7, 2) := by decide +kernel
theorem dX4_tally_54 : decode cX4_tally 54 = .ok (.iload 7, 2) := by decide +kernel
theorem dX4_tally_56 : decode cX4_tally 56 = .ok (.iload 6, 2) := by decide +kernel
theorem dX4_tally_58 : decode cX4_tally 58 = .ok (.if_icmp .ge 28, 3) := by decide +kernel
theorem dX4_tally_61 : decode cX4_tally 61 = .ok (.aload_n 0, 1) := by decide +kernel
theorem dX4_tally_62 : decode cX4_tally 62 = .ok (.iload 7, 2) := by decide +kernel
theorem dX4_tally_64 : decode cX4_tally 64 = .ok (.iload 5, 2) := by decide +kernel
theorem dX4_tally_66 : decode cX4_tally 66 = .ok (.iload_n 2, 1) := by decide +kernel
theorem dX4_tally_67 : decode cX4_tally 67 = .ok (.invokevirtual 42, 3) := by decide +kernel
theorem dX4_tally_70 : decode cX4_tally 70 = .ok (.ifCond .eq 10, 3) := by decide +kernel
theorem dX4_tally_73 : decode cX4_tally 73 = .ok (.aload_n 0, 1) := by decide +kernel
theorem dX4_tally_74 : decode cX4_tally 74 = .ok (.iload_n 1, 1) := by decide +kernel
theorem dX4_tally_75 : decode cX4_tally 75 = .ok (.iload_n 2, 1) := by decide +kernel
theorem dX4_tally_76 : decode cX4_tally 76 = .ok (.lload_n 3, 1) := by decide +kernel
theorem dX4_tally_77 : decode cX4_tally 77 = .ok (.invokevirtual 46, 3) := by decide +kernel
theorem dX4_tally_80 : decode cX4_tally 80 = .ok (.iinc 7 1, 3) := by decide +kernel
theorem dX4_tally_83 : decode cX4_tally 83 = .ok (.goto (-29), 3) := by decide +kernel
theorem dX4_tally_86 : decode cX4_tally 86 = .ok (.return_, 1) := by decide +kernel
def f_X4_tally_54   : Nat → Int32 → Int32 → Int64 → Int32 → Int32 → Int32 → zz_Mem → Option zz_Mem
  | 0, _, _, _, _, _, _, _ => none
  | n + 1, v1, v2, v3, v5, v6, v7, m =>
  if v6 ≤ v7 then (
  some m)
  else (
  zz_bnd (f_X4_drawInOrder v7 v5 v2 m) fun r1 m2 =>
  if r1 = 0 then (
  zz_letI (v7 + (1 : Int32)) fun x3 =>
  f_X4_tally_54 n v1 v2 v3 v5 v6 x3 m2)
  else (
  zz_bndR (f_X4_addDraw v1 v2 v3 m2) fun m4 =>
  zz_letI (v7 + (1 : Int32)) fun x5 =>
  f_X4_tally_54 n v1 v2 v3 v5 v6 x5 m4))
theorem t_X4_tally_54 {l : Launch} {G : zz_G} (hN : 107 ≤ zz_N G)  : ∀ (n : Nat) (v1 : Int32) (v2 : Int32) (v3 : Int64) (v5 : Int32) (v6 : Int32) (v7 : Int32) (m : zz_Mem), zz_Sim zz_sh l G mX4_tally 6 zz_vV zz_mV (f_X4_tally_54 n v1 v2 v3 v5 v6 v7 m) 54 [(0, .ref (zz_a G 96)), (1, .int v1), (2, .int v2), (3, .long v3), (5, .int v5), (6, .int v6), (7, .int v7)] [] m := by
  intro n
  induction n with
  | zero => intro _ _ _ _ _ _ _; exact zs_none
  | succ n ih =>
    intro v1 v2 v3 v5 v6 v7 m
    rw [f_X4_tally_54]
    refine zs_iload dX4_tally_54 6 rfl ?_
    refine zs_iload dX4_tally_56 5 rfl ?_
    refine zs_icmp_ge (tgt := 86) dX4_tally_58 (by decide) ?_ ?_
    · exact zs_vret dX4_tally_86 rfl rfl rfl
    · refine zs_aload_n dX4_tally_61 rfl 0 rfl ?_
      refine zs_iload dX4_tally_62 6 rfl ?_
      refine zs_iload dX4_tally_64 4 rfl ?_
      refine zs_iload_n dX4_tally_66 rfl 2 rfl ?_
      refine zs_cV_iW (rest := []) (k_X4_drawInOrder hN _ _ _ _) dX4_tally_67 lv_X4_42 ok_X4_drawInOrder (zz_rcv_o (sh_96 hN) rfl) (Nat.le_of_ble_eq_true rfl) rfl rfl (Nat.le_of_ble_eq_true rfl) (fun r1 m2 => ?_)
      refine zs_if_eq (tgt := 80) dX4_tally_70 (by decide) ?_ ?_
      · refine zs_iinc (fun y => [(7, .int y), (0, .ref (zz_a G 96)), (1, .int v1), (2, .int v2), (3, .long v3), (5, .int v5), (6, .int v6)]) dX4_tally_80 6 rfl ci_1 (Nat.le_of_ble_eq_true rfl) (fun _ => rfl) (fun x3 => ?_)
        refine zs_goto (tgt := 54) dX4_tally_83 (by decide) ?_
        refine zs_sub [1, 2, 3, 4, 5, 6, 0] rfl ?_
        exact ih _ _ _ _ _ _ _
      · refine zs_aload_n dX4_tally_73 rfl 0 rfl ?_
        refine zs_iload_n dX4_tally_74 rfl 1 rfl ?_
        refine zs_iload_n dX4_tally_75 rfl 2 rfl ?_
        refine zs_lload_n dX4_tally_76 rfl 3 rfl ?_
        refine zs_cV_vW (rest := []) (k_X4_addDraw hN _ _ _ _) dX4_tally_77 lv_X4_46 ok_X4_addDraw (zz_rcv_o (sh_96 hN) rfl) (Nat.le_of_ble_eq_true rfl) rfl rfl (Nat.le_of_ble_eq_true rfl) (fun m4 => ?_)
        refine zs_iinc (fun y => [(7, .int y), (0, .ref (zz_a G 96)), (1, .int v1), (2, .int v2), (3, .long v3), (5, .int v5), (6, .int v6)]) dX4_tally_80 6 rfl ci_1 (Nat.le_of_ble_eq_true rfl) (fun _ => rfl) (fun x5 => ?_)
        refine zs_goto (tgt := 54) dX4_tally_83 (by decide) ?_
        refine zs_sub [1, 2, 3, 4, 5, 6, 0] rfl ?_
        exact ih _ _ _ _ _ _ _
def f_X4_tally_32   : Nat → Int32 → Int32 → Int64 → Int32 → Int32 → Int32 → zz_Mem → Option zz_Mem
  | 0, _, _, _, _, _, _, _ => none
  | n + 1, v1, v2, v3, v5, v6, v7, m =>
  if v2 ≤ v7 then (
  f_X4_tally_54 zz_fuel v1 v2 v3 v5 v6 (0 : Int32) m)
  else (
  zz_letI (v6 * v5) fun x1 =>
  zz_letI (v7 + (1 : Int32)) fun x2 =>
  f_X4_tally_32 n v1 v2 v3 v5 x1 x2 m)
theorem t_X4_tally_32 {l : Launch} {G : zz_G} (hN : 107 ≤ zz_N G)  : ∀ (n : Nat) (v1 : Int32) (v2 : Int32) (v3 : Int64) (v5 : Int32) (v6 : Int32) (v7 : Int32) (m : zz_Mem), zz_Sim zz_sh l G mX4_tally 6 zz_vV zz_mV (f_X4_tally_32 n v1 v2 v3 v5 v6 v7 m) 32 [(0, .ref (zz_a G 96)), (1, .int v1), (2, .int v2), (3, .long v3), (5, .int v5), (6, .int v6), (7, .int v7)] [] m := by
  intro n
  induction n with
  | zero => intro _ _ _ _ _ _ _; exact zs_none
  | succ n ih =>
    intro v1 v2 v3 v5 v6 v7 m
    rw [f_X4_tally_32]
    refine zs_iload dX4_tally_32 6 rfl ?_
    refine zs_iload_n dX4_tally_34 rfl 2 rfl ?_
    refine zs_icmp_ge (tgt := 51) dX4_tally_35 (by decide) ?_ ?_
    · refine zs_iconst (v := (0 : Int32)) dX4_tally_51 ci_0 ?_
      refine zs_istore [(7, .int (0 : Int32)), (0, .ref (zz_a G 96)), (1, .int v1), (2, .int v2), (3, .long v3), (5, .int v5), (6, .int v6)] dX4_tally_52 (Nat.le_of_ble_eq_true rfl) rfl ?_
      refine zs_sub [1, 2, 3, 4, 5, 6, 0] rfl ?_
      exact t_X4_tally_54 hN zz_fuel _ _ _ _ _ _ _
    · refine zs_iload dX4_tally_38 5 rfl ?_
      refine zs_iload dX4_tally_40 4 rfl ?_
      refine zs_imul dX4_tally_42 ?_
      refine zs_letI (fun x1 => ?_)
      refine zs_istore [(6, .int x1), (0, .ref (zz_a G 96)), (1, .int v1), (2, .int v2), (3, .long v3), (5, .int v5), (7, .int v7)] dX4_tally_43 (Nat.le_of_ble_eq_true rfl) rfl ?_
      refine zs_iinc (fun y => [(7, .int y), (6, .int x1), (0, .ref (zz_a G 96)), (1, .int v1), (2, .int v2), (3, .long v3), (5, .int v5)]) dX4_tally_45 6 rfl ci_1 (Nat.le_of_ble_eq_true rfl) (fun _ => rfl) (fun x2 => ?_)
      refine zs_goto (tgt := 32) dX4_tally_48 (by decide) ?_
      refine zs_sub [2, 3, 4, 5, 6, 1, 0] rfl ?_
      exact ih _ _ _ _ _ _ _
def f_X4_tally  (p1 : Int32) (p2 : Int32) (p3 : Int64) (m : zz_Mem) : Option zz_Mem :=
  zz_letM (zz_setJ m 96 4 (0 : Int64)) fun m1 =>
  zz_letM (zz_setJ m1 96 5 (0 : Int64)) fun m2 =>
  zz_letM (zz_setJ m2 96 6 (0 : Int64)) fun m3 =>
  zz_letI ((m3.1 2 5) + (1 : Int32)) fun x4 =>
  f_X4_tally_32 zz_fuel p1 p2 p3 x4 (1 : Int32) (0 : Int32) m3
theorem k_X4_tally {l : Launch} {G : zz_G} (hN : 107 ≤ zz_N G) : ∀ (p1 : Int32) (p2 : Int32) (p3 : Int64) (m : zz_Mem), zz_Con zz_sh l G mX4_tally 6 [.ref (zz_a G 96), .int p1, .int p2, .long p3] zz_vV zz_mV (f_X4_tally p1 p2 p3 m) m := by
  intro p1 p2 p3 m
  refine zz_con (lv := [(0, .ref (zz_a G 96)), (1, .int p1), (2, .int p2), (3, .long p3)]) (by decide +kernel) (Nat.le_of_ble_eq_true rfl) rfl ?_
  unfold f_X4_tally
  refine zs_aload_n dX4_tally_0 rfl 0 rfl ?_
  refine zs_lconst (v := (0 : Int64)) dX4_tally_1 rfl ?_
  refine zs_putJ fl_X4_26 dX4_tally_2 (sh_96 hN) rfl ⟨rfl, rfl⟩ (fun m1 => ?_)
  refine zs_aload_n dX4_tally_5 rfl 0 rfl ?_
  refine zs_lconst (v := (0 : Int64)) dX4_tally_6 rfl ?_
  refine zs_putJ fl_X4_30 dX4_tally_7 (sh_96 hN) rfl ⟨rfl, rfl⟩ (fun m2 => ?_)
  refine zs_aload_n dX4_tally_10 rfl 0 rfl ?_
  refine zs_lconst (v := (0 : Int64)) dX4_tally_11 rfl ?_
  refine zs_putJ fl_X4_33 dX4_tally_12 (sh_96 hN) rfl ⟨rfl, rfl⟩ (fun m3 => ?_)
  refine zs_aload_n dX4_tally_15 rfl 0 rfl ?_
  refine zs_getR fl_X4_15 dX4_tally_16 (sh_96 hN) rfl ?_
  refine zs_getI fl_X4_36 dX4_tally_19 (sh_2 hN) rfl ?_
  refine zs_iconst (v := (1 : Int32)) dX4_tally_22 ci_1 ?_
  refine zs_iadd dX4_tally_23 ?_
  refine zs_letI (fun x4 => ?_)
  refine zs_istore [(5, .int x4), (0, .ref (zz_a G 96)), (1, .int p1), (2, .int p2), (3, .long p3)] dX4_tally_24 (Nat.le_of_ble_eq_true rfl) rfl ?_
  refine zs_iconst (v := (1 : Int32)) dX4_tally_26 ci_1 ?_
  refine zs_istore [(6, .int (1 : Int32)), (5, .int x4), (0, .ref (zz_a G 96)), (1, .int p1), (2, .int p2), (3, .long p3)] dX4_tally_27 (Nat.le_of_ble_eq_true rfl) rfl ?_
  refine zs_iconst (v := (0 : Int32)) dX4_tally_29 ci_0 ?_
  refine zs_istore [(7, .int (0 : Int32)), (6, .int (1 : Int32)), (5, .int x4), (0, .ref (zz_a G 96)), (1, .int p1), (2, .int p2), (3, .long p3)] dX4_tally_30 (Nat.le_of_ble_eq_true rfl) rfl ?_
  refine zs_sub [3, 4, 5, 6, 2, 1, 0] rfl ?_
  exact t_X4_tally_32 hN zz_fuel _ _ _ _ _ _ _
/-! X4_inLowestTerms: PillarDesk$Odds.inLowestTerms(JJI)J -/
theorem dX4_inLowestTerms_0 : decode cX4_inLowestTerms 0 = .ok (.lload_n 0, 1) := by decide +kernel
theorem dX4_inLowestTerms_1 : decode cX4_inLowestTerms 1 = .ok (.invokestatic 81, 3) := by decide +kernel
theorem dX4_inLowestTerms_4 : decode cX4_inLowestTerms 4 = .ok (.lstore 5, 2) := by decide +kernel
theorem dX4_inLowestTerms_6 : decode cX4_inLowestTerms 6 = .ok (.lload_n 2, 1) := by decide +kernel
theorem dX4_inLowestTerms_7 : decode cX4_inLowestTerms 7 = .ok (.lstore 7, 2) := by decide +kernel
theorem dX4_inLowestTerms_9 : decode cX4_inLowestTerms 9 = .ok (.iconst 0, 1) := by decide +kernel
theorem dX4_inLowestTerms_10 : decode cX4_inLowestTerms 10 = .ok (.istore 9, 2) := by decide +kernel
theorem dX4_inLowestTerms_12 : decode cX4_inLowestTerms 12 = .ok (.iload 9, 2) := by decide +kernel
theorem dX4_inLowestTerms_14 : decode cX4_inLowestTerms 14 = .ok (.bipush 100, 2) := by decide +kernel
theorem dX4_inLowestTerms_16 : decode cX4_inLowestTerms 16 = .ok (.if_icmp .ge 31, 3) := by decide +kernel
theorem dX4_inLowestTerms_19 : decode cX4_inLowestTerms 19 = .ok (.lload 7, 2) := by decide +kernel
theorem dX4_inLowestTerms_21 : decode cX4_inLowestTerms 21 = .ok (.lconst 0, 1) := by decide +kernel
theorem dX4_inLowestTerms_22 : decode cX4_inLowestTerms 22 = .ok (.lcmp, 1) := by decide +kernel
theorem dX4_inLowestTerms_23 : decode cX4_inLowestTerms 23 = .ok (.ifCond .le 24, 3) := by decide +kernel
theorem dX4_inLowestTerms_26 : decode cX4_inLowestTerms 26 = .ok (.lload 5, 2) := by decide +kernel
theorem dX4_inLowestTerms_28 : decode cX4_inLowestTerms 28 = .ok (.lload 7, 2) := by decide +kernel
theorem dX4_inLowestTerms_30 : decode cX4_inLowestTerms 30 = .ok (.lrem, 1) := by decide +kernel
theorem dX4_inLowestTerms_31 : decode cX4_inLowestTerms 31 = .ok (.lstore 10, 2) := by decide +kernel
theorem dX4_inLowestTerms_33 : decode cX4_inLowestTerms 33 = .ok (.lload 7, 2) := by decide +kernel
theorem dX4_inLowestTerms_35 : decode cX4_inLowestTerms 35 = .ok (.lstore 5, 2) := by decide +kernel
theorem dX4_inLowestTerms_37 : decode cX4_inLowestTerms 37 = .ok (.lload 10, 2) := by decide +kernel
theorem dX4_inLowestTerms_39 : decode cX4_inLowestTerms 39 = .ok (.lstore 7, 2) := by decide +kernel
theorem dX4_inLowestTerms_41 : decode cX4_inLowestTerms 41 = .ok (.iinc 9 1, 3) := by decide +kernel
theorem dX4_inLowestTerms_44 : decode cX4_inLowestTerms 44 = .ok (.goto (-32), 3) := by decide +kernel
theorem dX4_inLowestTerms_47 : decode cX4_inLowestTerms 47 = .ok (.lload 5, 2) := by decide +kernel
theorem dX4_inLowestTerms_49 : decode cX4_inLowestTerms 49 = .ok (.lconst 0, 1) := by decide +kernel
theorem dX4_inLowestTerms_50 : decode cX4_inLowestTerms 50 = .ok (.lcmp, 1) := by decide +kernel
theorem dX4_inLowestTerms_51 : decode cX4_inLowestTerms 51 = .ok (.ifCond .gt 7, 3) := by decide +kernel
theorem dX4_inLowestTerms_54 : decode cX4_inLowestTerms 54 = .ok (.iload 4, 2) := by decide +kernel
theorem dX4_inLowestTerms_56 : decode cX4_inLowestTerms 56 = .ok (.i2l, 1) := by decide +kernel
theorem dX4_inLowestTerms_57 : decode cX4_inLowestTerms 57 = .ok (.lreturn, 1) := by decide +kernel
theorem dX4_inLowestTerms_58 : decode cX4_inLowestTerms 58 = .ok (.iload 4, 2) := by decide +kernel
theorem dX4_inLowestTerms_60 : decode cX4_inLowestTerms 60 = .ok (.ifCond .ne 7, 3) := by decide +kernel
theorem dX4_inLowestTerms_63 : decode cX4_inLowestTerms 63 = .ok (.lload_n 0, 1) := by decide +kernel
theorem dX4_inLowestTerms_64 : decode cX4_inLowestTerms 64 = .ok (.goto 4, 3) := by decide +kernel
theorem dX4_inLowestTerms_67 : decode cX4_inLowestTerms 67 = .ok (.lload_n 2, 1) := by decide +kernel
theorem dX4_inLowestTerms_68 : decode cX4_inLowestTerms 68 = .ok (.lload 5, 2) := by decide +kernel
theorem dX4_inLowestTerms_70 : decode cX4_inLowestTerms 70 = .ok (.ldiv, 1) := by decide +kernel
theorem dX4_inLowestTerms_71 : decode cX4_inLowestTerms 71 = .ok (.lreturn, 1) := by decide +kernel
def f_X4_inLowestTerms_68   (v5 : Int64) (s0 : Int64) : Option Int64 :=
  zz_nzJ v5 <|
  some (s0 / v5)
theorem t_X4_inLowestTerms_68 {l : Launch} {G : zz_G} (hN : 107 ≤ zz_N G) {m : zz_Mem}  : ∀ (v5 : Int64) (s0 : Int64), zz_Sim zz_sh l G mX4_inLowestTerms 1 zz_vJr (zz_mC m) (f_X4_inLowestTerms_68 v5 s0) 68 [(5, .long v5)] [.long s0] m := by
  intro v5 s0
  unfold f_X4_inLowestTerms_68
  refine zs_lload dX4_inLowestTerms_68 0 rfl ?_
  refine zs_ldivG dX4_inLowestTerms_70 ?_
  exact zs_lret dX4_inLowestTerms_71 rfl rfl rfl
def f_X4_inLowestTerms_47   (v0 : Int64) (v2 : Int64) (v4 : Int32) (v5 : Int64) : Option Int64 :=
  if (0 : Int64) < v5 then (
  if v4 = 0 then (
  f_X4_inLowestTerms_68 v5 v0)
  else (
  f_X4_inLowestTerms_68 v5 v2))
  else (
  some v4.toInt64)
theorem t_X4_inLowestTerms_47 {l : Launch} {G : zz_G} (hN : 107 ≤ zz_N G) {m : zz_Mem}  : ∀ (v0 : Int64) (v2 : Int64) (v4 : Int32) (v5 : Int64), zz_Sim zz_sh l G mX4_inLowestTerms 1 zz_vJr (zz_mC m) (f_X4_inLowestTerms_47 v0 v2 v4 v5) 47 [(0, .long v0), (2, .long v2), (4, .int v4), (5, .long v5)] [] m := by
  intro v0 v2 v4 v5
  unfold f_X4_inLowestTerms_47
  refine zs_lload dX4_inLowestTerms_47 3 rfl ?_
  refine zs_lconst (v := (0 : Int64)) dX4_inLowestTerms_49 rfl ?_
  refine zs_lcmp_gt (tgt := 58) dX4_inLowestTerms_50 dX4_inLowestTerms_51 (by decide) ?_ ?_
  · refine zs_iload dX4_inLowestTerms_58 2 rfl ?_
    refine zs_if_ne (tgt := 67) dX4_inLowestTerms_60 (by decide) ?_ ?_
    · refine zs_lload_n dX4_inLowestTerms_67 rfl 1 rfl ?_
      refine zs_sub [3] rfl ?_
      exact t_X4_inLowestTerms_68 hN _ _
    · refine zs_lload_n dX4_inLowestTerms_63 rfl 0 rfl ?_
      refine zs_goto (tgt := 68) dX4_inLowestTerms_64 (by decide) ?_
      refine zs_sub [3] rfl ?_
      exact t_X4_inLowestTerms_68 hN _ _
  · refine zs_iload dX4_inLowestTerms_54 2 rfl ?_
    refine zs_i2l dX4_inLowestTerms_56 ?_
    exact zs_lret dX4_inLowestTerms_57 rfl rfl rfl
def f_X4_inLowestTerms_12   : Nat → Int64 → Int64 → Int32 → Int64 → Int64 → Int32 → Option Int64
  | 0, _, _, _, _, _, _ => none
  | n + 1, v0, v2, v4, v5, v7, v9 =>
  if (100 : Int32) ≤ v9 then (
  f_X4_inLowestTerms_47 v0 v2 v4 v5)
  else (
  if v7 ≤ (0 : Int64) then (
  f_X4_inLowestTerms_47 v0 v2 v4 v5)
  else (
  zz_nzJ v7 <|
  zz_letJ (v5 - v5 / v7 * v7) fun y1 =>
  zz_letI (v9 + (1 : Int32)) fun x2 =>
  f_X4_inLowestTerms_12 n v0 v2 v4 v7 y1 x2))
theorem t_X4_inLowestTerms_12 {l : Launch} {G : zz_G} (hN : 107 ≤ zz_N G) {m : zz_Mem}  : ∀ (n : Nat) (v0 : Int64) (v2 : Int64) (v4 : Int32) (v5 : Int64) (v7 : Int64) (v9 : Int32), zz_Sim zz_sh l G mX4_inLowestTerms 1 zz_vJr (zz_mC m) (f_X4_inLowestTerms_12 n v0 v2 v4 v5 v7 v9) 12 [(0, .long v0), (2, .long v2), (4, .int v4), (5, .long v5), (7, .long v7), (9, .int v9)] [] m := by
  intro n
  induction n with
  | zero => intro _ _ _ _ _ _; exact zs_none
  | succ n ih =>
    intro v0 v2 v4 v5 v7 v9
    rw [f_X4_inLowestTerms_12]
    refine zs_iload dX4_inLowestTerms_12 5 rfl ?_
    refine zs_bipush (v := (100 : Int32)) dX4_inLowestTerms_14 cb_100 ?_
    refine zs_icmp_ge (tgt := 47) dX4_inLowestTerms_16 (by decide) ?_ ?_
    · refine zs_sub [0, 1, 2, 3] rfl ?_
      exact t_X4_inLowestTerms_47 hN _ _ _ _
    · refine zs_lload dX4_inLowestTerms_19 4 rfl ?_
      refine zs_lconst (v := (0 : Int64)) dX4_inLowestTerms_21 rfl ?_
      refine zs_lcmp_le (tgt := 47) dX4_inLowestTerms_22 dX4_inLowestTerms_23 (by decide) ?_ ?_
      · refine zs_sub [0, 1, 2, 3] rfl ?_
        exact t_X4_inLowestTerms_47 hN _ _ _ _
      · refine zs_lload dX4_inLowestTerms_26 3 rfl ?_
        refine zs_lload dX4_inLowestTerms_28 4 rfl ?_
        refine zs_lremG dX4_inLowestTerms_30 ?_
        refine zs_letJ (fun y1 => ?_)
        refine zs_lstore [(10, .long y1), (0, .long v0), (2, .long v2), (4, .int v4), (5, .long v5), (7, .long v7), (9, .int v9)] dX4_inLowestTerms_31 (Nat.le_of_ble_eq_true rfl) rfl ?_
        refine zs_lload dX4_inLowestTerms_33 5 rfl ?_
        refine zs_lstore [(5, .long v7), (10, .long y1), (0, .long v0), (2, .long v2), (4, .int v4), (7, .long v7), (9, .int v9)] dX4_inLowestTerms_35 (Nat.le_of_ble_eq_true rfl) rfl ?_
        refine zs_lload dX4_inLowestTerms_37 1 rfl ?_
        refine zs_lstore [(7, .long y1), (5, .long v7), (10, .long y1), (0, .long v0), (2, .long v2), (4, .int v4), (9, .int v9)] dX4_inLowestTerms_39 (Nat.le_of_ble_eq_true rfl) rfl ?_
        refine zs_iinc (fun y => [(9, .int y), (7, .long y1), (5, .long v7), (10, .long y1), (0, .long v0), (2, .long v2), (4, .int v4)]) dX4_inLowestTerms_41 6 rfl ci_1 (Nat.le_of_ble_eq_true rfl) (fun _ => rfl) (fun x2 => ?_)
        refine zs_goto (tgt := 12) dX4_inLowestTerms_44 (by decide) ?_
        refine zs_sub [4, 5, 6, 2, 1, 0] rfl ?_
        exact ih _ _ _ _ _ _
def f_X4_inLowestTerms  (p0 : Int64) (p2 : Int64) (p4 : Int32) : Option Int64 :=
  zz_bndR (f_J9_abs_067f4 p0) fun r1 =>
  f_X4_inLowestTerms_12 zz_fuel p0 p2 p4 r1 p2 (0 : Int32)
theorem k_X4_inLowestTerms {l : Launch} {G : zz_G} (hN : 107 ≤ zz_N G) : ∀ (p0 : Int64) (p2 : Int64) (p4 : Int32) (m : zz_Mem), zz_Con zz_sh l G mX4_inLowestTerms 1 [.long p0, .long p2, .int p4] zz_vJr (zz_mC m) (f_X4_inLowestTerms p0 p2 p4) m := by
  intro p0 p2 p4 m
  refine zz_con (lv := [(0, .long p0), (2, .long p2), (4, .int p4)]) (by decide +kernel) (Nat.le_of_ble_eq_true rfl) rfl ?_
  unfold f_X4_inLowestTerms
  refine zs_lload_n dX4_inLowestTerms_0 rfl 0 rfl ?_
  refine zs_cS_jR (rest := []) (k_J9_abs_067f4 hN _ _) dX4_inLowestTerms_1 ls_X4_81 ok_J9_abs_067f4 (Nat.le_of_ble_eq_true rfl) rfl rfl (Nat.le_of_ble_eq_true rfl) (fun r1 => ?_)
  refine zs_lstore [(5, .long r1), (0, .long p0), (2, .long p2), (4, .int p4)] dX4_inLowestTerms_4 (Nat.le_of_ble_eq_true rfl) rfl ?_
  refine zs_lload_n dX4_inLowestTerms_6 rfl 2 rfl ?_
  refine zs_lstore [(7, .long p2), (5, .long r1), (0, .long p0), (2, .long p2), (4, .int p4)] dX4_inLowestTerms_7 (Nat.le_of_ble_eq_true rfl) rfl ?_
  refine zs_iconst (v := (0 : Int32)) dX4_inLowestTerms_9 ci_0 ?_
  refine zs_istore [(9, .int (0 : Int32)), (7, .long p2), (5, .long r1), (0, .long p0), (2, .long p2), (4, .int p4)] dX4_inLowestTerms_10 (Nat.le_of_ble_eq_true rfl) rfl ?_
  refine zs_sub [3, 4, 5, 2, 1, 0] rfl ?_
  exact t_X4_inLowestTerms_12 hN zz_fuel _ _ _ _ _ _
