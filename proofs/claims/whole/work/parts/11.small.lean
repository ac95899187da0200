/-! ===== models and walks: 11.small ===== -/
/-! X9_copyFrom: PillarDesk$Stand.copyFrom(LPillarDesk$Stand;)V -/
theorem dX9_copyFrom_0 : decode cX9_copyFrom 0 = .ok (.aload_n 1, 1) := by decide +kernel
theorem dX9_copyFrom_1 : decode cX9_copyFrom 1 = .ok (.getfield 9, 3) := by decide +kernel
theorem dX9_copyFrom_4 : decode cX9_copyFrom 4 = .ok (.iconst 0, 1) := by decide +kernel
theorem dX9_copyFrom_5 : decode cX9_copyFrom 5 = .ok (.aload_n 0, 1) := by decide +kernel
theorem dX9_copyFrom_6 : decode cX9_copyFrom 6 = .ok (.getfield 9, 3) := by decide +kernel
theorem dX9_copyFrom_9 : decode cX9_copyFrom 9 = .ok (.iconst 0, 1) := by decide +kernel
theorem dX9_copyFrom_10 : decode cX9_copyFrom 10 = .ok (.aload_n 0, 1) := by decide +kernel
theorem dX9_copyFrom_11 : decode cX9_copyFrom 11 = .ok (.getfield 9, 3) := by decide +kernel
theorem dX9_copyFrom_14 : decode cX9_copyFrom 14 = .ok (.arraylength, 1) := by decide +kernel
theorem dX9_copyFrom_15 : decode cX9_copyFrom 15 = .ok (.invokestatic 18, 3) := by decide +kernel
theorem dX9_copyFrom_18 : decode cX9_copyFrom 18 = .ok (.aload_n 1, 1) := by decide +kernel
theorem dX9_copyFrom_19 : decode cX9_copyFrom 19 = .ok (.getfield 15, 3) := by decide +kernel
theorem dX9_copyFrom_22 : decode cX9_copyFrom 22 = .ok (.iconst 0, 1) := by decide +kernel
theorem dX9_copyFrom_23 : decode cX9_copyFrom 23 = .ok (.aload_n 0, 1) := by decide +kernel
theorem dX9_copyFrom_24 : decode cX9_copyFrom 24 = .ok (.getfield 15, 3) := by decide +kernel
theorem dX9_copyFrom_27 : decode cX9_copyFrom 27 = .ok (.iconst 0, 1) := by decide +kernel
theorem dX9_copyFrom_28 : decode cX9_copyFrom 28 = .ok (.aload_n 0, 1) := by decide +kernel
theorem dX9_copyFrom_29 : decode cX9_copyFrom 29 = .ok (.getfield 15, 3) := by decide +kernel
theorem dX9_copyFrom_32 : decode cX9_copyFrom 32 = .ok (.arraylength, 1) := by decide +kernel
theorem dX9_copyFrom_33 : decode cX9_copyFrom 33 = .ok (.invokestatic 18, 3) := by decide +kernel
theorem dX9_copyFrom_36 : decode cX9_copyFrom 36 = .ok (.aload_n 0, 1) := by decide +kernel
theorem dX9_copyFrom_37 : decode cX9_copyFrom 37 = .ok (.aload_n 1, 1) := by decide +kernel
theorem dX9_copyFrom_38 : decode cX9_copyFrom 38 = .ok (.getfield 24, 3) := by decide +kernel
theorem dX9_copyFrom_41 : decode cX9_copyFrom 41 = .ok (.putfield 24, 3) := by decide +kernel
theorem dX9_copyFrom_44 : decode cX9_copyFrom 44 = .ok (.return_, 1) := by decide +kernel
def f_X9_copyFrom (o : Nat) (o0 : Nat)  (m : zz_Mem) : Option zz_Mem :=
  zz_letM (zz_rowI m (o + 1) (va_cpy (m.1 (o0 + 1)) (m.1 (o + 1)) 0 0 8)) fun m1 =>
  zz_letM (zz_rowI m1 (o + 2) (va_cpy (m1.1 (o0 + 2)) (m1.1 (o + 2)) 0 0 10)) fun m2 =>
  zz_letM (zz_setI m2 o 2 (m2.1 o0 2)) fun m3 =>
  some m3
theorem k_X9_copyFrom {l : Launch} {G : zz_G} (hN : 107 ≤ zz_N G) {o : Nat} {o0 : Nat} (ho : zz_isStand G o) (ho0 : zz_isStand G o0) : ∀ (m : zz_Mem), zz_Con zz_sh l G mX9_copyFrom 1 [.ref (zz_a G o), .ref (zz_a G o0)] zz_vV zz_mV (f_X9_copyFrom o o0 m) m := by
  intro m
  refine zz_con (lv := [(0, .ref (zz_a G o)), (1, .ref (zz_a G o0))]) (by decide +kernel) (Nat.le_of_ble_eq_true rfl) rfl ?_
  unfold f_X9_copyFrom
  refine zs_aload_n dX9_copyFrom_0 rfl 1 rfl ?_
  refine zs_getR fl_X9_9 dX9_copyFrom_1 (ho0).1 rfl ?_
  refine zs_iconst (v := (0 : Int32)) dX9_copyFrom_4 ci_0 ?_
  refine zs_aload_n dX9_copyFrom_5 rfl 0 rfl ?_
  refine zs_getR fl_X9_9 dX9_copyFrom_6 (ho).1 rfl ?_
  refine zs_iconst (v := (0 : Int32)) dX9_copyFrom_9 ci_0 ?_
  refine zs_aload_n dX9_copyFrom_10 rfl 0 rfl ?_
  refine zs_getR fl_X9_9 dX9_copyFrom_11 (ho).1 rfl ?_
  refine zs_alen0 (v := (8 : Int32)) dX9_copyFrom_14 (ho).2.1 al_8 ?_
  refine zs_acopy dX9_copyFrom_15 ac_X9_18 (ho0).2.1 (ho).2.1 clp_8 (by decide) (Nat.le_of_ble_eq_true rfl) (Nat.le_of_ble_eq_true rfl) (fun m1 => ?_)
  refine zs_aload_n dX9_copyFrom_18 rfl 1 rfl ?_
  refine zs_getR fl_X9_15 dX9_copyFrom_19 (ho0).1 rfl ?_
  refine zs_iconst (v := (0 : Int32)) dX9_copyFrom_22 ci_0 ?_
  refine zs_aload_n dX9_copyFrom_23 rfl 0 rfl ?_
  refine zs_getR fl_X9_15 dX9_copyFrom_24 (ho).1 rfl ?_
  refine zs_iconst (v := (0 : Int32)) dX9_copyFrom_27 ci_0 ?_
  refine zs_aload_n dX9_copyFrom_28 rfl 0 rfl ?_
  refine zs_getR fl_X9_15 dX9_copyFrom_29 (ho).1 rfl ?_
  refine zs_alen0 (v := (10 : Int32)) dX9_copyFrom_32 (ho).2.2 al_10 ?_
  refine zs_acopy dX9_copyFrom_33 ac_X9_18 (ho0).2.2 (ho).2.2 clp_10 (by decide) (Nat.le_of_ble_eq_true rfl) (Nat.le_of_ble_eq_true rfl) (fun m2 => ?_)
  refine zs_aload_n dX9_copyFrom_36 rfl 0 rfl ?_
  refine zs_aload_n dX9_copyFrom_37 rfl 1 rfl ?_
  refine zs_getI fl_X9_24 dX9_copyFrom_38 (ho0).1 rfl ?_
  refine zs_putI fl_X9_24 dX9_copyFrom_41 (ho).1 rfl ⟨rfl, rfl⟩ (fun m3 => ?_)
  exact zs_vret dX9_copyFrom_44 rfl rfl rfl
/-! X10_isMissing: PillarDesk$Tray.isMissing()Z -/
theorem dX10_isMissing_0 : decode cX10_isMissing 0 = .ok (.aload_n 0, 1) := by decide +kernel
theorem dX10_isMissing_1 : decode cX10_isMissing 1 = .ok (.getfield 15, 3) := by decide +kernel
theorem dX10_isMissing_4 : decode cX10_isMissing 4 = .ok (.iconst (-1), 1) := by decide +kernel
theorem dX10_isMissing_5 : decode cX10_isMissing 5 = .ok (.if_icmp .ne 7, 3) := by decide +kernel
theorem dX10_isMissing_8 : decode cX10_isMissing 8 = .ok (.iconst 1, 1) := by decide +kernel
theorem dX10_isMissing_9 : decode cX10_isMissing 9 = .ok (.goto 4, 3) := by decide +kernel
theorem dX10_isMissing_12 : decode cX10_isMissing 12 = .ok (.iconst 0, 1) := by decide +kernel
theorem dX10_isMissing_13 : decode cX10_isMissing 13 = .ok (.ireturn, 1) := by decide +kernel
def f_X10_isMissing (o : Nat) (m : zz_Mem)  : Option Int32 :=
  if (m.1 o 2) = (-1 : Int32) then (
  some (1 : Int32))
  else (
  some (0 : Int32))
theorem k_X10_isMissing {l : Launch} {G : zz_G} (hN : 107 ≤ zz_N G) {o : Nat} (ho : zz_isTray G o) : ∀ (m : zz_Mem), zz_Con zz_sh l G mX10_isMissing 0 [.ref (zz_a G o)] zz_vIr (zz_mC m) (f_X10_isMissing o m) m := by
  intro m
  refine zz_con (lv := [(0, .ref (zz_a G o))]) (by decide +kernel) (Nat.le_of_ble_eq_true rfl) rfl ?_
  unfold f_X10_isMissing
  refine zs_aload_n dX10_isMissing_0 rfl 0 rfl ?_
  refine zs_getI fl_X10_15 dX10_isMissing_1 (ho).1 rfl ?_
  refine zs_iconst (v := (-1 : Int32)) dX10_isMissing_4 ci_m1 ?_
  refine zs_icmp_ne (tgt := 12) dX10_isMissing_5 (by decide) ?_ ?_
  · refine zs_iconst (v := (0 : Int32)) dX10_isMissing_12 ci_0 ?_
    exact zs_zret dX10_isMissing_13 rfl rfl rfl rfl
  · refine zs_iconst (v := (1 : Int32)) dX10_isMissing_8 ci_1 ?_
    refine zs_goto (tgt := 13) dX10_isMissing_9 (by decide) ?_
    exact zs_zret dX10_isMissing_13 rfl rfl rfl rfl
/-! X10_renew: PillarDesk$Tray.renew(II)V -/
theorem dX10_renew_0 : decode cX10_renew 0 = .ok (.aload_n 0, 1) := by decide +kernel
theorem dX10_renew_1 : decode cX10_renew 1 = .ok (.iload_n 1, 1) := by decide +kernel
theorem dX10_renew_2 : decode cX10_renew 2 = .ok (.putfield 19, 3) := by decide +kernel
theorem dX10_renew_5 : decode cX10_renew 5 = .ok (.aload_n 0, 1) := by decide +kernel
theorem dX10_renew_6 : decode cX10_renew 6 = .ok (.iload_n 2, 1) := by decide +kernel
theorem dX10_renew_7 : decode cX10_renew 7 = .ok (.putfield 15, 3) := by decide +kernel
theorem dX10_renew_10 : decode cX10_renew 10 = .ok (.aload_n 0, 1) := by decide +kernel
theorem dX10_renew_11 : decode cX10_renew 11 = .ok (.getfield 9, 3) := by decide +kernel
theorem dX10_renew_14 : decode cX10_renew 14 = .ok (.lconst 0, 1) := by decide +kernel
theorem dX10_renew_15 : decode cX10_renew 15 = .ok (.invokestatic 22, 3) := by decide +kernel
theorem dX10_renew_18 : decode cX10_renew 18 = .ok (.return_, 1) := by decide +kernel
def f_X10_renew (o : Nat) (p1 : Int32) (p2 : Int32) (m : zz_Mem) : Option zz_Mem :=
  zz_letM (zz_setI m o 1 p1) fun m1 =>
  zz_letM (zz_setI m1 o 2 p2) fun m2 =>
  zz_bndR (f_J7_fill_d0a16 (o + 1) (0 : Int64) m2) fun m3 =>
  some m3
theorem k_X10_renew {l : Launch} {G : zz_G} (hN : 107 ≤ zz_N G) {o : Nat} (ho : zz_isTray G o) : ∀ (p1 : Int32) (p2 : Int32) (m : zz_Mem), zz_Con zz_sh l G mX10_renew 1 [.ref (zz_a G o), .int p1, .int p2] zz_vV zz_mV (f_X10_renew o p1 p2 m) m := by
  intro p1 p2 m
  refine zz_con (lv := [(0, .ref (zz_a G o)), (1, .int p1), (2, .int p2)]) (by decide +kernel) (Nat.le_of_ble_eq_true rfl) rfl ?_
  unfold f_X10_renew
  refine zs_aload_n dX10_renew_0 rfl 0 rfl ?_
  refine zs_iload_n dX10_renew_1 rfl 1 rfl ?_
  refine zs_putI fl_X10_19 dX10_renew_2 (ho).1 rfl ⟨rfl, rfl⟩ (fun m1 => ?_)
  refine zs_aload_n dX10_renew_5 rfl 0 rfl ?_
  refine zs_iload_n dX10_renew_6 rfl 2 rfl ?_
  refine zs_putI fl_X10_15 dX10_renew_7 (ho).1 rfl ⟨rfl, rfl⟩ (fun m2 => ?_)
  refine zs_aload_n dX10_renew_10 rfl 0 rfl ?_
  refine zs_getR fl_X10_9 dX10_renew_11 (ho).1 rfl ?_
  refine zs_lconst (v := (0 : Int64)) dX10_renew_14 rfl ?_
  refine zs_cS_vW (rest := []) (k_J7_fill_d0a16 hN (ho).2 _ _) dX10_renew_15 ls_X10_22 ok_J7_fill_d0a16 (Nat.le_of_ble_eq_true rfl) rfl rfl (Nat.le_of_ble_eq_true rfl) (fun m3 => ?_)
  exact zs_vret dX10_renew_18 rfl rfl rfl
/-! X10_put: PillarDesk$Tray.put(IJ)V -/
theorem dX10_put_0 : decode cX10_put 0 = .ok (.aload_n 0, 1) := by decide +kernel
theorem dX10_put_1 : decode cX10_put 1 = .ok (.getfield 19, 3) := by decide +kernel
theorem dX10_put_4 : decode cX10_put 4 = .ok (.tableswitch 66 0 2 #[28, 41, 54], 28) := by decide +kernel
theorem dX10_put_32 : decode cX10_put 32 = .ok (.aload_n 0, 1) := by decide +kernel
theorem dX10_put_33 : decode cX10_put 33 = .ok (.getfield 9, 3) := by decide +kernel
theorem dX10_put_36 : decode cX10_put 36 = .ok (.iload_n 1, 1) := by decide +kernel
theorem dX10_put_37 : decode cX10_put 37 = .ok (.lload_n 2, 1) := by decide +kernel
theorem dX10_put_38 : decode cX10_put 38 = .ok (.l2i, 1) := by decide +kernel
theorem dX10_put_39 : decode cX10_put 39 = .ok (.i2b, 1) := by decide +kernel
theorem dX10_put_40 : decode cX10_put 40 = .ok (.i2l, 1) := by decide +kernel
theorem dX10_put_41 : decode cX10_put 41 = .ok (.lastore, 1) := by decide +kernel
theorem dX10_put_42 : decode cX10_put 42 = .ok (.goto 35, 3) := by decide +kernel
theorem dX10_put_45 : decode cX10_put 45 = .ok (.aload_n 0, 1) := by decide +kernel
theorem dX10_put_46 : decode cX10_put 46 = .ok (.getfield 9, 3) := by decide +kernel
theorem dX10_put_49 : decode cX10_put 49 = .ok (.iload_n 1, 1) := by decide +kernel
theorem dX10_put_50 : decode cX10_put 50 = .ok (.lload_n 2, 1) := by decide +kernel
theorem dX10_put_51 : decode cX10_put 51 = .ok (.l2i, 1) := by decide +kernel
theorem dX10_put_52 : decode cX10_put 52 = .ok (.i2s, 1) := by decide +kernel
theorem dX10_put_53 : decode cX10_put 53 = .ok (.i2l, 1) := by decide +kernel
theorem dX10_put_54 : decode cX10_put 54 = .ok (.lastore, 1) := by decide +kernel
theorem dX10_put_55 : decode cX10_put 55 = .ok (.goto 22, 3) := by decide +kernel
theorem dX10_put_58 : decode cX10_put 58 = .ok (.aload_n 0, 1) := by decide +kernel
theorem dX10_put_59 : decode cX10_put 59 = .ok (.getfield 9, 3) := by decide +kernel
theorem dX10_put_62 : decode cX10_put 62 = .ok (.iload_n 1, 1) := by decide +kernel
theorem dX10_put_63 : decode cX10_put 63 = .ok (.lload_n 2, 1) := by decide +kernel
theorem dX10_put_64 : decode cX10_put 64 = .ok (.l2i, 1) := by decide +kernel
theorem dX10_put_65 : decode cX10_put 65 = .ok (.i2l, 1) := by decide +kernel
theorem dX10_put_66 : decode cX10_put 66 = .ok (.lastore, 1) := by decide +kernel
theorem dX10_put_67 : decode cX10_put 67 = .ok (.goto 10, 3) := by decide +kernel
theorem dX10_put_70 : decode cX10_put 70 = .ok (.aload_n 0, 1) := by decide +kernel
theorem dX10_put_71 : decode cX10_put 71 = .ok (.getfield 9, 3) := by decide +kernel
theorem dX10_put_74 : decode cX10_put 74 = .ok (.iload_n 1, 1) := by decide +kernel
theorem dX10_put_75 : decode cX10_put 75 = .ok (.lload_n 2, 1) := by decide +kernel
theorem dX10_put_76 : decode cX10_put 76 = .ok (.lastore, 1) := by decide +kernel
theorem dX10_put_77 : decode cX10_put 77 = .ok (.return_, 1) := by decide +kernel
def f_X10_put (o : Nat) (p1 : Int32) (p2 : Int64) (m : zz_Mem) : Option zz_Mem :=
  zz_letI (m.1 o 1) fun x1 =>
  if x1 = (0 : Int32) then (
  zz_ix p1 40 <| zz_letM (zz_setJ m (o + 1) p1.toNatClampNeg p2.toInt32.toInt8.toInt32.toInt64) fun m3 =>
  some m3)
  else if x1 = (1 : Int32) then (
  zz_ix p1 40 <| zz_letM (zz_setJ m (o + 1) p1.toNatClampNeg p2.toInt32.toInt16.toInt32.toInt64) fun m5 =>
  some m5)
  else if x1 = (2 : Int32) then (
  zz_ix p1 40 <| zz_letM (zz_setJ m (o + 1) p1.toNatClampNeg p2.toInt32.toInt64) fun m7 =>
  some m7)
  else (
  zz_ix p1 40 <| zz_letM (zz_setJ m (o + 1) p1.toNatClampNeg p2) fun m8 =>
  some m8)
theorem k_X10_put {l : Launch} {G : zz_G} (hN : 107 ≤ zz_N G) {o : Nat} (ho : zz_isTray G o) : ∀ (p1 : Int32) (p2 : Int64) (m : zz_Mem), zz_Con zz_sh l G mX10_put 0 [.ref (zz_a G o), .int p1, .long p2] zz_vV zz_mV (f_X10_put o p1 p2 m) m := by
  intro p1 p2 m
  refine zz_con (lv := [(0, .ref (zz_a G o)), (1, .int p1), (2, .long p2)]) (by decide +kernel) (Nat.le_of_ble_eq_true rfl) rfl ?_
  unfold f_X10_put
  refine zs_aload_n dX10_put_0 rfl 0 rfl ?_
  refine zs_getI fl_X10_19 dX10_put_1 (ho).1 rfl ?_
  refine zs_letI (fun x1 => ?_)
  refine zs_ite (fun h2 => ?_) (fun h2 => ?_)
  · refine zs_tswI (tgt := 32) h2 dX10_put_4 (by decide) (by decide) rfl (by decide) ?_
    refine zs_aload_n dX10_put_32 rfl 0 rfl ?_
    refine zs_getR fl_X10_9 dX10_put_33 (ho).1 rfl ?_
    refine zs_iload_n dX10_put_36 rfl 1 rfl ?_
    refine zs_lload_n dX10_put_37 rfl 2 rfl ?_
    refine zs_l2i dX10_put_38 ?_
    refine zs_i2b dX10_put_39 ?_
    refine zs_i2l dX10_put_40 ?_
    refine zs_lastG dX10_put_41 (ho).2 (fun m3 => ?_)
    refine zs_goto (tgt := 77) dX10_put_42 (by decide) ?_
    exact zs_vret dX10_put_77 rfl rfl rfl
  refine zs_ite (fun h4 => ?_) (fun h4 => ?_)
  · refine zs_tswI (tgt := 45) h4 dX10_put_4 (by decide) (by decide) rfl (by decide) ?_
    refine zs_aload_n dX10_put_45 rfl 0 rfl ?_
    refine zs_getR fl_X10_9 dX10_put_46 (ho).1 rfl ?_
    refine zs_iload_n dX10_put_49 rfl 1 rfl ?_
    refine zs_lload_n dX10_put_50 rfl 2 rfl ?_
    refine zs_l2i dX10_put_51 ?_
    refine zs_i2s dX10_put_52 ?_
    refine zs_i2l dX10_put_53 ?_
    refine zs_lastG dX10_put_54 (ho).2 (fun m5 => ?_)
    refine zs_goto (tgt := 77) dX10_put_55 (by decide) ?_
    exact zs_vret dX10_put_77 rfl rfl rfl
  refine zs_ite (fun h6 => ?_) (fun h6 => ?_)
  · refine zs_tswI (tgt := 58) h6 dX10_put_4 (by decide) (by decide) rfl (by decide) ?_
    refine zs_aload_n dX10_put_58 rfl 0 rfl ?_
    refine zs_getR fl_X10_9 dX10_put_59 (ho).1 rfl ?_
    refine zs_iload_n dX10_put_62 rfl 1 rfl ?_
    refine zs_lload_n dX10_put_63 rfl 2 rfl ?_
    refine zs_l2i dX10_put_64 ?_
    refine zs_i2l dX10_put_65 ?_
    refine zs_lastG dX10_put_66 (ho).2 (fun m7 => ?_)
    refine zs_goto (tgt := 77) dX10_put_67 (by decide) ?_
    exact zs_vret dX10_put_77 rfl rfl rfl
  refine zs_tswO (tgt := 70) dX10_put_4 (by have eh2 := lv_neT h2 (a := 0) rfl; have eh4 := lv_neT h4 (a := 1) rfl; have eh6 := lv_neT h6 (a := 2) rfl; omega) (by decide) ?_
  refine zs_aload_n dX10_put_70 rfl 0 rfl ?_
  refine zs_getR fl_X10_9 dX10_put_71 (ho).1 rfl ?_
  refine zs_iload_n dX10_put_74 rfl 1 rfl ?_
  refine zs_lload_n dX10_put_75 rfl 2 rfl ?_
  refine zs_lastG dX10_put_76 (ho).2 (fun m8 => ?_)
  exact zs_vret dX10_put_77 rfl rfl rfl
/-! X3_clear: PillarDesk$Laws.clear()V -/
theorem dX3_clear_0 : decode cX3_clear 0 = .ok (.aload_n 0, 1) := by decide +kernel
theorem dX3_clear_1 : decode cX3_clear 1 = .ok (.iconst 0, 1) := by decide +kernel
theorem dX3_clear_2 : decode cX3_clear 2 = .ok (.putfield 21, 3) := by decide +kernel
theorem dX3_clear_5 : decode cX3_clear 5 = .ok (.aload_n 0, 1) := by decide +kernel
theorem dX3_clear_6 : decode cX3_clear 6 = .ok (.iconst 0, 1) := by decide +kernel
theorem dX3_clear_7 : decode cX3_clear 7 = .ok (.putfield 25, 3) := by decide +kernel
theorem dX3_clear_10 : decode cX3_clear 10 = .ok (.aload_n 0, 1) := by decide +kernel
theorem dX3_clear_11 : decode cX3_clear 11 = .ok (.iconst 0, 1) := by decide +kernel
theorem dX3_clear_12 : decode cX3_clear 12 = .ok (.putfield 28, 3) := by decide +kernel
theorem dX3_clear_15 : decode cX3_clear 15 = .ok (.aload_n 0, 1) := by decide +kernel
theorem dX3_clear_16 : decode cX3_clear 16 = .ok (.iconst 0, 1) := by decide +kernel
theorem dX3_clear_17 : decode cX3_clear 17 = .ok (.putfield 31, 3) := by decide +kernel
theorem dX3_clear_20 : decode cX3_clear 20 = .ok (.aload_n 0, 1) := by decide +kernel
theorem dX3_clear_21 : decode cX3_clear 21 = .ok (.iconst 0, 1) := by decide +kernel
theorem dX3_clear_22 : decode cX3_clear 22 = .ok (.putfield 34, 3) := by decide +kernel
theorem dX3_clear_25 : decode cX3_clear 25 = .ok (.return_, 1) := by decide +kernel
def f_X3_clear   (m : zz_Mem) : Option zz_Mem :=
  zz_letM (zz_setI m 23 3 (0 : Int32)) fun m1 =>
  zz_letM (zz_setI m1 23 4 (0 : Int32)) fun m2 =>
  zz_letM (zz_setI m2 23 5 (0 : Int32)) fun m3 =>
  zz_letM (zz_setI m3 23 6 (0 : Int32)) fun m4 =>
  zz_letM (zz_setI m4 23 7 (0 : Int32)) fun m5 =>
  some m5
theorem k_X3_clear {l : Launch} {G : zz_G} (hN : 107 ≤ zz_N G) : ∀ (m : zz_Mem), zz_Con zz_sh l G mX3_clear 0 [.ref (zz_a G 23)] zz_vV zz_mV (f_X3_clear m) m := by
  intro m
  refine zz_con (lv := [(0, .ref (zz_a G 23))]) (by decide +kernel) (Nat.le_of_ble_eq_true rfl) rfl ?_
  unfold f_X3_clear
  refine zs_aload_n dX3_clear_0 rfl 0 rfl ?_
  refine zs_iconst (v := (0 : Int32)) dX3_clear_1 ci_0 ?_
  refine zs_putI fl_X3_21 dX3_clear_2 (sh_23 hN) rfl ⟨rfl, rfl⟩ (fun m1 => ?_)
  refine zs_aload_n dX3_clear_5 rfl 0 rfl ?_
  refine zs_iconst (v := (0 : Int32)) dX3_clear_6 ci_0 ?_
  refine zs_putI fl_X3_25 dX3_clear_7 (sh_23 hN) rfl ⟨rfl, rfl⟩ (fun m2 => ?_)
  refine zs_aload_n dX3_clear_10 rfl 0 rfl ?_
  refine zs_iconst (v := (0 : Int32)) dX3_clear_11 ci_0 ?_
  refine zs_putI fl_X3_28 dX3_clear_12 (sh_23 hN) rfl ⟨rfl, rfl⟩ (fun m3 => ?_)
  refine zs_aload_n dX3_clear_15 rfl 0 rfl ?_
  refine zs_iconst (v := (0 : Int32)) dX3_clear_16 ci_0 ?_
  refine zs_putI fl_X3_31 dX3_clear_17 (sh_23 hN) rfl ⟨rfl, rfl⟩ (fun m4 => ?_)
  refine zs_aload_n dX3_clear_20 rfl 0 rfl ?_
  refine zs_iconst (v := (0 : Int32)) dX3_clear_21 ci_0 ?_
  refine zs_putI fl_X3_34 dX3_clear_22 (sh_23 hN) rfl ⟨rfl, rfl⟩ (fun m5 => ?_)
  exact zs_vret dX3_clear_25 rfl rfl rfl
/-! X3_copyFrom: PillarDesk$Laws.copyFrom(LPillarDesk$Laws;)V -/
theorem dX3_copyFrom_0 : decode cX3_copyFrom 0 = .ok (.aload_n 1, 1) := by decide +kernel
theorem dX3_copyFrom_1 : decode cX3_copyFrom 1 = .ok (.getfield 9, 3) := by decide +kernel
theorem dX3_copyFrom_4 : decode cX3_copyFrom 4 = .ok (.iconst 0, 1) := by decide +kernel
theorem dX3_copyFrom_5 : decode cX3_copyFrom 5 = .ok (.aload_n 0, 1) := by decide +kernel
theorem dX3_copyFrom_6 : decode cX3_copyFrom 6 = .ok (.getfield 9, 3) := by decide +kernel
theorem dX3_copyFrom_9 : decode cX3_copyFrom 9 = .ok (.iconst 0, 1) := by decide +kernel
theorem dX3_copyFrom_10 : decode cX3_copyFrom 10 = .ok (.aload_n 0, 1) := by decide +kernel
theorem dX3_copyFrom_11 : decode cX3_copyFrom 11 = .ok (.getfield 9, 3) := by decide +kernel
theorem dX3_copyFrom_14 : decode cX3_copyFrom 14 = .ok (.arraylength, 1) := by decide +kernel
theorem dX3_copyFrom_15 : decode cX3_copyFrom 15 = .ok (.invokestatic 37, 3) := by decide +kernel
theorem dX3_copyFrom_18 : decode cX3_copyFrom 18 = .ok (.aload_n 0, 1) := by decide +kernel
theorem dX3_copyFrom_19 : decode cX3_copyFrom 19 = .ok (.aload_n 1, 1) := by decide +kernel
theorem dX3_copyFrom_20 : decode cX3_copyFrom 20 = .ok (.getfield 21, 3) := by decide +kernel
theorem dX3_copyFrom_23 : decode cX3_copyFrom 23 = .ok (.putfield 21, 3) := by decide +kernel
theorem dX3_copyFrom_26 : decode cX3_copyFrom 26 = .ok (.aload_n 0, 1) := by decide +kernel
theorem dX3_copyFrom_27 : decode cX3_copyFrom 27 = .ok (.aload_n 1, 1) := by decide +kernel
theorem dX3_copyFrom_28 : decode cX3_copyFrom 28 = .ok (.getfield 25, 3) := by decide +kernel
theorem dX3_copyFrom_31 : decode cX3_copyFrom 31 = .ok (.putfield 25, 3) := by decide +kernel
theorem dX3_copyFrom_34 : decode cX3_copyFrom 34 = .ok (.aload_n 0, 1) := by decide +kernel
theorem dX3_copyFrom_35 : decode cX3_copyFrom 35 = .ok (.aload_n 1, 1) := by decide +kernel
theorem dX3_copyFrom_36 : decode cX3_copyFrom 36 = .ok (.getfield 28, 3) := by decide +kernel
theorem dX3_copyFrom_39 : decode cX3_copyFrom 39 = .ok (.putfield 28, 3) := by decide +kernel
theorem dX3_copyFrom_42 : decode cX3_copyFrom 42 = .ok (.aload_n 0, 1) := by decide +kernel
theorem dX3_copyFrom_43 : decode cX3_copyFrom 43 = .ok (.aload_n 1, 1) := by decide +kernel
theorem dX3_copyFrom_44 : decode cX3_copyFrom 44 = .ok (.getfield 31, 3) := by decide +kernel
theorem dX3_copyFrom_47 : decode cX3_copyFrom 47 = .ok (.putfield 31, 3) := by decide +kernel
theorem dX3_copyFrom_50 : decode cX3_copyFrom 50 = .ok (.aload_n 0, 1) := by decide +kernel
theorem dX3_copyFrom_51 : decode cX3_copyFrom 51 = .ok (.aload_n 1, 1) := by decide +kernel
theorem dX3_copyFrom_52 : decode cX3_copyFrom 52 = .ok (.getfield 34, 3) := by decide +kernel
theorem dX3_copyFrom_55 : decode cX3_copyFrom 55 = .ok (.putfield 34, 3) := by decide +kernel
theorem dX3_copyFrom_58 : decode cX3_copyFrom 58 = .ok (.return_, 1) := by decide +kernel
def f_X3_copyFrom (o : Nat) (o0 : Nat)  (m : zz_Mem) : Option zz_Mem :=
  zz_letM (zz_rowI m (o + 1) (va_cpy (m.1 (o0 + 1)) (m.1 (o + 1)) 0 0 900)) fun m1 =>
  zz_letM (zz_setI m1 o 3 (m1.1 o0 3)) fun m2 =>
  zz_letM (zz_setI m2 o 4 (m2.1 o0 4)) fun m3 =>
  zz_letM (zz_setI m3 o 5 (m3.1 o0 5)) fun m4 =>
  zz_letM (zz_setI m4 o 6 (m4.1 o0 6)) fun m5 =>
  zz_letM (zz_setI m5 o 7 (m5.1 o0 7)) fun m6 =>
  some m6
theorem k_X3_copyFrom {l : Launch} {G : zz_G} (hN : 107 ≤ zz_N G) {o : Nat} {o0 : Nat} (ho : zz_isLaws G o) (ho0 : zz_isLaws G o0) : ∀ (m : zz_Mem), zz_Con zz_sh l G mX3_copyFrom 1 [.ref (zz_a G o), .ref (zz_a G o0)] zz_vV zz_mV (f_X3_copyFrom o o0 m) m := by
  intro m
  refine zz_con (lv := [(0, .ref (zz_a G o)), (1, .ref (zz_a G o0))]) (by decide +kernel) (Nat.le_of_ble_eq_true rfl) rfl ?_
  unfold f_X3_copyFrom
  refine zs_aload_n dX3_copyFrom_0 rfl 1 rfl ?_
  refine zs_getR fl_X3_9 dX3_copyFrom_1 (ho0).1 rfl ?_
  refine zs_iconst (v := (0 : Int32)) dX3_copyFrom_4 ci_0 ?_
  refine zs_aload_n dX3_copyFrom_5 rfl 0 rfl ?_
  refine zs_getR fl_X3_9 dX3_copyFrom_6 (ho).1 rfl ?_
  refine zs_iconst (v := (0 : Int32)) dX3_copyFrom_9 ci_0 ?_
  refine zs_aload_n dX3_copyFrom_10 rfl 0 rfl ?_
  refine zs_getR fl_X3_9 dX3_copyFrom_11 (ho).1 rfl ?_
  refine zs_alen0 (v := (900 : Int32)) dX3_copyFrom_14 (ho).2.1 al_900 ?_
  refine zs_acopy dX3_copyFrom_15 ac_X3_37 (ho0).2.1 (ho).2.1 clp_900 (by decide) (Nat.le_of_ble_eq_true rfl) (Nat.le_of_ble_eq_true rfl) (fun m1 => ?_)
  refine zs_aload_n dX3_copyFrom_18 rfl 0 rfl ?_
  refine zs_aload_n dX3_copyFrom_19 rfl 1 rfl ?_
  refine zs_getI fl_X3_21 dX3_copyFrom_20 (ho0).1 rfl ?_
  refine zs_putI fl_X3_21 dX3_copyFrom_23 (ho).1 rfl ⟨rfl, rfl⟩ (fun m2 => ?_)
  refine zs_aload_n dX3_copyFrom_26 rfl 0 rfl ?_
  refine zs_aload_n dX3_copyFrom_27 rfl 1 rfl ?_
  refine zs_getI fl_X3_25 dX3_copyFrom_28 (ho0).1 rfl ?_
  refine zs_putI fl_X3_25 dX3_copyFrom_31 (ho).1 rfl ⟨rfl, rfl⟩ (fun m3 => ?_)
  refine zs_aload_n dX3_copyFrom_34 rfl 0 rfl ?_
  refine zs_aload_n dX3_copyFrom_35 rfl 1 rfl ?_
  refine zs_getI fl_X3_28 dX3_copyFrom_36 (ho0).1 rfl ?_
  refine zs_putI fl_X3_28 dX3_copyFrom_39 (ho).1 rfl ⟨rfl, rfl⟩ (fun m4 => ?_)
  refine zs_aload_n dX3_copyFrom_42 rfl 0 rfl ?_
  refine zs_aload_n dX3_copyFrom_43 rfl 1 rfl ?_
  refine zs_getI fl_X3_31 dX3_copyFrom_44 (ho0).1 rfl ?_
  refine zs_putI fl_X3_31 dX3_copyFrom_47 (ho).1 rfl ⟨rfl, rfl⟩ (fun m5 => ?_)
  refine zs_aload_n dX3_copyFrom_50 rfl 0 rfl ?_
  refine zs_aload_n dX3_copyFrom_51 rfl 1 rfl ?_
  refine zs_getI fl_X3_34 dX3_copyFrom_52 (ho0).1 rfl ?_
  refine zs_putI fl_X3_34 dX3_copyFrom_55 (ho).1 rfl ⟨rfl, rfl⟩ (fun m6 => ?_)
  exact zs_vret dX3_copyFrom_58 rfl rfl rfl
/-! X3_add: PillarDesk$Laws.add(I)V -/
theorem dX3_add_0 : decode cX3_add 0 = .ok (.aload_n 0, 1) := by decide +kernel
theorem dX3_add_1 : decode cX3_add 1 = .ok (.getfield 21, 3) := by decide +kernel
theorem dX3_add_4 : decode cX3_add 4 = .ok (.aload_n 0, 1) := by decide +kernel
theorem dX3_add_5 : decode cX3_add 5 = .ok (.getfield 9, 3) := by decide +kernel
theorem dX3_add_8 : decode cX3_add 8 = .ok (.arraylength, 1) := by decide +kernel
theorem dX3_add_9 : decode cX3_add 9 = .ok (.if_icmp .ge 23, 3) := by decide +kernel
theorem dX3_add_12 : decode cX3_add 12 = .ok (.aload_n 0, 1) := by decide +kernel
theorem dX3_add_13 : decode cX3_add 13 = .ok (.getfield 9, 3) := by decide +kernel
theorem dX3_add_16 : decode cX3_add 16 = .ok (.aload_n 0, 1) := by decide +kernel
theorem dX3_add_17 : decode cX3_add 17 = .ok (.getfield 21, 3) := by decide +kernel
theorem dX3_add_20 : decode cX3_add 20 = .ok (.iload_n 1, 1) := by decide +kernel
theorem dX3_add_21 : decode cX3_add 21 = .ok (.iastore, 1) := by decide +kernel
theorem dX3_add_22 : decode cX3_add 22 = .ok (.aload_n 0, 1) := by decide +kernel
theorem dX3_add_23 : decode cX3_add 23 = .ok (.dup, 1) := by decide +kernel
theorem dX3_add_24 : decode cX3_add 24 = .ok (.getfield 21, 3) := by decide +kernel
theorem dX3_add_27 : decode cX3_add 27 = .ok (.iconst 1, 1) := by decide +kernel
theorem dX3_add_28 : decode cX3_add 28 = .ok (.iadd, 1) := by decide +kernel
theorem dX3_add_29 : decode cX3_add 29 = .ok (.putfield 21, 3) := by decide +kernel
theorem dX3_add_32 : decode cX3_add 32 = .ok (.return_, 1) := by decide +kernel
def f_X3_add  (p1 : Int32) (m : zz_Mem) : Option zz_Mem :=
  if (900 : Int32) ≤ (m.1 23 3) then (
  some m)
  else (
  zz_ix (m.1 23 3) 900 <| zz_letM (zz_setI m 24 (m.1 23 3).toNatClampNeg p1) fun m1 =>
  zz_letM (zz_setI m1 23 3 ((m1.1 23 3) + (1 : Int32))) fun m2 =>
  some m2)
theorem k_X3_add {l : Launch} {G : zz_G} (hN : 107 ≤ zz_N G) : ∀ (p1 : Int32) (m : zz_Mem), zz_Con zz_sh l G mX3_add 0 [.ref (zz_a G 23), .int p1] zz_vV zz_mV (f_X3_add p1 m) m := by
  intro p1 m
  refine zz_con (lv := [(0, .ref (zz_a G 23)), (1, .int p1)]) (by decide +kernel) (Nat.le_of_ble_eq_true rfl) rfl ?_
  unfold f_X3_add
  refine zs_aload_n dX3_add_0 rfl 0 rfl ?_
  refine zs_getI fl_X3_21 dX3_add_1 (sh_23 hN) rfl ?_
  refine zs_aload_n dX3_add_4 rfl 0 rfl ?_
  refine zs_getR fl_X3_9 dX3_add_5 (sh_23 hN) rfl ?_
  refine zs_alen0 (v := (900 : Int32)) dX3_add_8 (sh_24 hN) al_900 ?_
  refine zs_icmp_ge (tgt := 32) dX3_add_9 (by decide) ?_ ?_
  · exact zs_vret dX3_add_32 rfl rfl rfl
  · refine zs_aload_n dX3_add_12 rfl 0 rfl ?_
    refine zs_getR fl_X3_9 dX3_add_13 (sh_23 hN) rfl ?_
    refine zs_aload_n dX3_add_16 rfl 0 rfl ?_
    refine zs_getI fl_X3_21 dX3_add_17 (sh_23 hN) rfl ?_
    refine zs_iload_n dX3_add_20 rfl 1 rfl ?_
    refine zs_iastG dX3_add_21 (sh_24 hN) (fun m1 => ?_)
    refine zs_aload_n dX3_add_22 rfl 0 rfl ?_
    refine zs_dup dX3_add_23 rfl ?_
    refine zs_getI fl_X3_21 dX3_add_24 (sh_23 hN) rfl ?_
    refine zs_iconst (v := (1 : Int32)) dX3_add_27 ci_1 ?_
    refine zs_iadd dX3_add_28 ?_
    refine zs_putI fl_X3_21 dX3_add_29 (sh_23 hN) rfl ⟨rfl, rfl⟩ (fun m2 => ?_)
    exact zs_vret dX3_add_32 rfl rfl rfl
/-! X3_hasRates: PillarDesk$Laws.hasRates()Z -/
theorem dX3_hasRates_0 : decode cX3_hasRates 0 = .ok (.aload_n 0, 1) := by decide +kernel
theorem dX3_hasRates_1 : decode cX3_hasRates 1 = .ok (.getfield 28, 3) := by decide +kernel
theorem dX3_hasRates_4 : decode cX3_hasRates 4 = .ok (.aload_n 0, 1) := by decide +kernel
theorem dX3_hasRates_5 : decode cX3_hasRates 5 = .ok (.getfield 25, 3) := by decide +kernel
theorem dX3_hasRates_8 : decode cX3_hasRates 8 = .ok (.if_icmp .le 7, 3) := by decide +kernel
theorem dX3_hasRates_11 : decode cX3_hasRates 11 = .ok (.iconst 1, 1) := by decide +kernel
theorem dX3_hasRates_12 : decode cX3_hasRates 12 = .ok (.goto 4, 3) := by decide +kernel
theorem dX3_hasRates_15 : decode cX3_hasRates 15 = .ok (.iconst 0, 1) := by decide +kernel
theorem dX3_hasRates_16 : decode cX3_hasRates 16 = .ok (.ireturn, 1) := by decide +kernel
def f_X3_hasRates (m : zz_Mem)  : Option Int32 :=
  if (m.1 9 5) ≤ (m.1 9 4) then (
  some (0 : Int32))
  else (
  some (1 : Int32))
theorem k_X3_hasRates {l : Launch} {G : zz_G} (hN : 107 ≤ zz_N G) : ∀ (m : zz_Mem), zz_Con zz_sh l G mX3_hasRates 0 [.ref (zz_a G 9)] zz_vIr (zz_mC m) (f_X3_hasRates m) m := by
  intro m
  refine zz_con (lv := [(0, .ref (zz_a G 9))]) (by decide +kernel) (Nat.le_of_ble_eq_true rfl) rfl ?_
  unfold f_X3_hasRates
  refine zs_aload_n dX3_hasRates_0 rfl 0 rfl ?_
  refine zs_getI fl_X3_28 dX3_hasRates_1 (sh_9 hN) rfl ?_
  refine zs_aload_n dX3_hasRates_4 rfl 0 rfl ?_
  refine zs_getI fl_X3_25 dX3_hasRates_5 (sh_9 hN) rfl ?_
  refine zs_icmp_le (tgt := 15) dX3_hasRates_8 (by decide) ?_ ?_
  · refine zs_iconst (v := (0 : Int32)) dX3_hasRates_15 ci_0 ?_
    exact zs_zret dX3_hasRates_16 rfl rfl rfl rfl
  · refine zs_iconst (v := (1 : Int32)) dX3_hasRates_11 ci_1 ?_
    refine zs_goto (tgt := 16) dX3_hasRates_12 (by decide) ?_
    exact zs_zret dX3_hasRates_16 rfl rfl rfl rfl
/-! X3_hasOpens: PillarDesk$Laws.hasOpens()Z -/
theorem dX3_hasOpens_0 : decode cX3_hasOpens 0 = .ok (.aload_n 0, 1) := by decide +kernel
theorem dX3_hasOpens_1 : decode cX3_hasOpens 1 = .ok (.getfield 34, 3) := by decide +kernel
theorem dX3_hasOpens_4 : decode cX3_hasOpens 4 = .ok (.aload_n 0, 1) := by decide +kernel
theorem dX3_hasOpens_5 : decode cX3_hasOpens 5 = .ok (.getfield 31, 3) := by decide +kernel
theorem dX3_hasOpens_8 : decode cX3_hasOpens 8 = .ok (.if_icmp .le 7, 3) := by decide +kernel
theorem dX3_hasOpens_11 : decode cX3_hasOpens 11 = .ok (.iconst 1, 1) := by decide +kernel
theorem dX3_hasOpens_12 : decode cX3_hasOpens 12 = .ok (.goto 4, 3) := by decide +kernel
theorem dX3_hasOpens_15 : decode cX3_hasOpens 15 = .ok (.iconst 0, 1) := by decide +kernel
theorem dX3_hasOpens_16 : decode cX3_hasOpens 16 = .ok (.ireturn, 1) := by decide +kernel
def f_X3_hasOpens (m : zz_Mem)  : Option Int32 :=
  if (m.1 9 7) ≤ (m.1 9 6) then (
  some (0 : Int32))
  else (
  some (1 : Int32))
theorem k_X3_hasOpens {l : Launch} {G : zz_G} (hN : 107 ≤ zz_N G) : ∀ (m : zz_Mem), zz_Con zz_sh l G mX3_hasOpens 0 [.ref (zz_a G 9)] zz_vIr (zz_mC m) (f_X3_hasOpens m) m := by
  intro m
  refine zz_con (lv := [(0, .ref (zz_a G 9))]) (by decide +kernel) (Nat.le_of_ble_eq_true rfl) rfl ?_
  unfold f_X3_hasOpens
  refine zs_aload_n dX3_hasOpens_0 rfl 0 rfl ?_
  refine zs_getI fl_X3_34 dX3_hasOpens_1 (sh_9 hN) rfl ?_
  refine zs_aload_n dX3_hasOpens_4 rfl 0 rfl ?_
  refine zs_getI fl_X3_31 dX3_hasOpens_5 (sh_9 hN) rfl ?_
  refine zs_icmp_le (tgt := 15) dX3_hasOpens_8 (by decide) ?_ ?_
  · refine zs_iconst (v := (0 : Int32)) dX3_hasOpens_15 ci_0 ?_
    exact zs_zret dX3_hasOpens_16 rfl rfl rfl rfl
  · refine zs_iconst (v := (1 : Int32)) dX3_hasOpens_11 ci_1 ?_
    refine zs_goto (tgt := 16) dX3_hasOpens_12 (by decide) ?_
    exact zs_zret dX3_hasOpens_16 rfl rfl rfl rfl
/-! X3_joined: PillarDesk$Laws.joined(IJJ)I -/
theorem dX3_joined_0 : decode cX3_joined 0 = .ok (.lconst 0, 1) := by decide +kernel
theorem dX3_joined_1 : decode cX3_joined 1 = .ok (.lstore 5, 2) := by decide +kernel
theorem dX3_joined_3 : decode cX3_joined 3 = .ok (.iload_n 0, 1) := by decide +kernel
theorem dX3_joined_4 : decode cX3_joined 4 = .ok (.tableswitch 144 2000 2007 #[48, 56, 64, 72, 84, 96, 108, 126], 48) := by decide +kernel
theorem dX3_joined_52 : decode cX3_joined 52 = .ok (.lload_n 1, 1) := by decide +kernel
theorem dX3_joined_53 : decode cX3_joined 53 = .ok (.lload_n 3, 1) := by decide +kernel
theorem dX3_joined_54 : decode cX3_joined 54 = .ok (.ladd, 1) := by decide +kernel
theorem dX3_joined_55 : decode cX3_joined 55 = .ok (.lstore 5, 2) := by decide +kernel
theorem dX3_joined_57 : decode cX3_joined 57 = .ok (.goto 91, 3) := by decide +kernel
theorem dX3_joined_60 : decode cX3_joined 60 = .ok (.lload_n 1, 1) := by decide +kernel
theorem dX3_joined_61 : decode cX3_joined 61 = .ok (.lload_n 3, 1) := by decide +kernel
theorem dX3_joined_62 : decode cX3_joined 62 = .ok (.lsub, 1) := by decide +kernel
theorem dX3_joined_63 : decode cX3_joined 63 = .ok (.lstore 5, 2) := by decide +kernel
theorem dX3_joined_65 : decode cX3_joined 65 = .ok (.goto 83, 3) := by decide +kernel
theorem dX3_joined_68 : decode cX3_joined 68 = .ok (.lload_n 1, 1) := by decide +kernel
theorem dX3_joined_69 : decode cX3_joined 69 = .ok (.lload_n 3, 1) := by decide +kernel
theorem dX3_joined_70 : decode cX3_joined 70 = .ok (.lmul, 1) := by decide +kernel
theorem dX3_joined_71 : decode cX3_joined 71 = .ok (.lstore 5, 2) := by decide +kernel
theorem dX3_joined_73 : decode cX3_joined 73 = .ok (.goto 75, 3) := by decide +kernel
theorem dX3_joined_76 : decode cX3_joined 76 = .ok (.lload_n 1, 1) := by decide +kernel
theorem dX3_joined_77 : decode cX3_joined 77 = .ok (.lload_n 3, 1) := by decide +kernel
theorem dX3_joined_78 : decode cX3_joined 78 = .ok (.lcmp, 1) := by decide +kernel
theorem dX3_joined_79 : decode cX3_joined 79 = .ok (.ifCond .ne 7, 3) := by decide +kernel
theorem dX3_joined_82 : decode cX3_joined 82 = .ok (.iconst 1, 1) := by decide +kernel
theorem dX3_joined_83 : decode cX3_joined 83 = .ok (.goto 4, 3) := by decide +kernel
theorem dX3_joined_86 : decode cX3_joined 86 = .ok (.iconst 0, 1) := by decide +kernel
theorem dX3_joined_87 : decode cX3_joined 87 = .ok (.ireturn, 1) := by decide +kernel
theorem dX3_joined_88 : decode cX3_joined 88 = .ok (.lload_n 1, 1) := by decide +kernel
theorem dX3_joined_89 : decode cX3_joined 89 = .ok (.lload_n 3, 1) := by decide +kernel
theorem dX3_joined_90 : decode cX3_joined 90 = .ok (.lcmp, 1) := by decide +kernel
theorem dX3_joined_91 : decode cX3_joined 91 = .ok (.ifCond .ge 7, 3) := by decide +kernel
theorem dX3_joined_94 : decode cX3_joined 94 = .ok (.iconst 1, 1) := by decide +kernel
theorem dX3_joined_95 : decode cX3_joined 95 = .ok (.goto 4, 3) := by decide +kernel
theorem dX3_joined_98 : decode cX3_joined 98 = .ok (.iconst 0, 1) := by decide +kernel
theorem dX3_joined_99 : decode cX3_joined 99 = .ok (.ireturn, 1) := by decide +kernel
theorem dX3_joined_100 : decode cX3_joined 100 = .ok (.lload_n 1, 1) := by decide +kernel
theorem dX3_joined_101 : decode cX3_joined 101 = .ok (.lload_n 3, 1) := by decide +kernel
theorem dX3_joined_102 : decode cX3_joined 102 = .ok (.lcmp, 1) := by decide +kernel
theorem dX3_joined_103 : decode cX3_joined 103 = .ok (.ifCond .le 7, 3) := by decide +kernel
theorem dX3_joined_106 : decode cX3_joined 106 = .ok (.iconst 1, 1) := by decide +kernel
theorem dX3_joined_107 : decode cX3_joined 107 = .ok (.goto 4, 3) := by decide +kernel
theorem dX3_joined_110 : decode cX3_joined 110 = .ok (.iconst 0, 1) := by decide +kernel
theorem dX3_joined_111 : decode cX3_joined 111 = .ok (.ireturn, 1) := by decide +kernel
theorem dX3_joined_112 : decode cX3_joined 112 = .ok (.lload_n 1, 1) := by decide +kernel
theorem dX3_joined_113 : decode cX3_joined 113 = .ok (.lconst 0, 1) := by decide +kernel
theorem dX3_joined_114 : decode cX3_joined 114 = .ok (.lcmp, 1) := by decide +kernel
theorem dX3_joined_115 : decode cX3_joined 115 = .ok (.ifCond .eq 13, 3) := by decide +kernel
theorem dX3_joined_118 : decode cX3_joined 118 = .ok (.lload_n 3, 1) := by decide +kernel
theorem dX3_joined_119 : decode cX3_joined 119 = .ok (.lconst 0, 1) := by decide +kernel
theorem dX3_joined_120 : decode cX3_joined 120 = .ok (.lcmp, 1) := by decide +kernel
theorem dX3_joined_121 : decode cX3_joined 121 = .ok (.ifCond .eq 7, 3) := by decide +kernel
theorem dX3_joined_124 : decode cX3_joined 124 = .ok (.iconst 1, 1) := by decide +kernel
theorem dX3_joined_125 : decode cX3_joined 125 = .ok (.goto 4, 3) := by decide +kernel
theorem dX3_joined_128 : decode cX3_joined 128 = .ok (.iconst 0, 1) := by decide +kernel
theorem dX3_joined_129 : decode cX3_joined 129 = .ok (.ireturn, 1) := by decide +kernel
theorem dX3_joined_130 : decode cX3_joined 130 = .ok (.lload_n 1, 1) := by decide +kernel
theorem dX3_joined_131 : decode cX3_joined 131 = .ok (.lconst 0, 1) := by decide +kernel
theorem dX3_joined_132 : decode cX3_joined 132 = .ok (.lcmp, 1) := by decide +kernel
theorem dX3_joined_133 : decode cX3_joined 133 = .ok (.ifCond .ne 9, 3) := by decide +kernel
theorem dX3_joined_136 : decode cX3_joined 136 = .ok (.lload_n 3, 1) := by decide +kernel
theorem dX3_joined_137 : decode cX3_joined 137 = .ok (.lconst 0, 1) := by decide +kernel
theorem dX3_joined_138 : decode cX3_joined 138 = .ok (.lcmp, 1) := by decide +kernel
theorem dX3_joined_139 : decode cX3_joined 139 = .ok (.ifCond .eq 7, 3) := by decide +kernel
theorem dX3_joined_142 : decode cX3_joined 142 = .ok (.iconst 1, 1) := by decide +kernel
theorem dX3_joined_143 : decode cX3_joined 143 = .ok (.goto 4, 3) := by decide +kernel
theorem dX3_joined_146 : decode cX3_joined 146 = .ok (.iconst 0, 1) := by decide +kernel
theorem dX3_joined_147 : decode cX3_joined 147 = .ok (.ireturn, 1) := by decide +kernel
theorem dX3_joined_148 : decode cX3_joined 148 = .ok (.lload 5, 2) := by decide +kernel
theorem dX3_joined_150 : decode cX3_joined 150 = .ok (.ldc2_w 53, 3) := by decide +kernel
theorem dX3_joined_153 : decode cX3_joined 153 = .ok (.lcmp, 1) := by decide +kernel
theorem dX3_joined_154 : decode cX3_joined 154 = .ok (.ifCond .le 9, 3) := by decide +kernel
theorem dX3_joined_157 : decode cX3_joined 157 = .ok (.ldc2_w 53, 3) := by decide +kernel
theorem dX3_joined_160 : decode cX3_joined 160 = .ok (.goto 20, 3) := by decide +kernel
theorem dX3_joined_163 : decode cX3_joined 163 = .ok (.lload 5, 2) := by decide +kernel
theorem dX3_joined_165 : decode cX3_joined 165 = .ok (.ldc2_w 55, 3) := by decide +kernel
theorem dX3_joined_168 : decode cX3_joined 168 = .ok (.lcmp, 1) := by decide +kernel
theorem dX3_joined_169 : decode cX3_joined 169 = .ok (.ifCond .ge 9, 3) := by decide +kernel
theorem dX3_joined_172 : decode cX3_joined 172 = .ok (.ldc2_w 55, 3) := by decide +kernel
theorem dX3_joined_175 : decode cX3_joined 175 = .ok (.goto 5, 3) := by decide +kernel
theorem dX3_joined_178 : decode cX3_joined 178 = .ok (.lload 5, 2) := by decide +kernel
theorem dX3_joined_180 : decode cX3_joined 180 = .ok (.l2i, 1) := by decide +kernel
theorem dX3_joined_181 : decode cX3_joined 181 = .ok (.ireturn, 1) := by decide +kernel
def f_X3_joined_148   (v5 : Int64) : Option Int32 :=
  if v5 ≤ (1000000 : Int64) then (
  if (-1000000 : Int64) ≤ v5 then (
  some v5.toInt32)
  else (
  some ((-1000000 : Int64).toInt32)))
  else (
  some ((1000000 : Int64).toInt32))
theorem t_X3_joined_148 {l : Launch} {G : zz_G} (hN : 107 ≤ zz_N G) {m : zz_Mem}  : ∀ (v5 : Int64), zz_Sim zz_sh l G mX3_joined 0 zz_vIr (zz_mC m) (f_X3_joined_148 v5) 148 [(5, .long v5)] [] m := by
  intro v5
  unfold f_X3_joined_148
  refine zs_lload dX3_joined_148 0 rfl ?_
  refine zs_ldc2 (v := (1000000 : Int64)) dX3_joined_150 kc_X3_53 ?_
  refine zs_lcmp_le (tgt := 163) dX3_joined_153 dX3_joined_154 (by decide) ?_ ?_
  · refine zs_lload dX3_joined_163 0 rfl ?_
    refine zs_ldc2 (v := (-1000000 : Int64)) dX3_joined_165 kc_X3_55 ?_
    refine zs_lcmp_ge (tgt := 178) dX3_joined_168 dX3_joined_169 (by decide) ?_ ?_
    · refine zs_lload dX3_joined_178 0 rfl ?_
      refine zs_l2i dX3_joined_180 ?_
      exact zs_iret dX3_joined_181 rfl rfl rfl
    · refine zs_ldc2 (v := (-1000000 : Int64)) dX3_joined_172 kc_X3_55 ?_
      refine zs_goto (tgt := 180) dX3_joined_175 (by decide) ?_
      refine zs_l2i dX3_joined_180 ?_
      exact zs_iret dX3_joined_181 rfl rfl rfl
  · refine zs_ldc2 (v := (1000000 : Int64)) dX3_joined_157 kc_X3_53 ?_
    refine zs_goto (tgt := 180) dX3_joined_160 (by decide) ?_
    refine zs_l2i dX3_joined_180 ?_
    exact zs_iret dX3_joined_181 rfl rfl rfl
def f_X3_joined  (p0 : Int32) (p1 : Int64) (p3 : Int64) : Option Int32 :=
  if p0 = (2000 : Int32) then (
  zz_letJ (p1 + p3) fun y2 =>
  f_X3_joined_148 y2)
  else if p0 = (2001 : Int32) then (
  zz_letJ (p1 - p3) fun y4 =>
  f_X3_joined_148 y4)
  else if p0 = (2002 : Int32) then (
  zz_letJ (p1 * p3) fun y6 =>
  f_X3_joined_148 y6)
  else if p0 = (2003 : Int32) then (
  if p1 = p3 then (
  some (1 : Int32))
  else (
  some (0 : Int32)))
  else if p0 = (2004 : Int32) then (
  if p3 ≤ p1 then (
  some (0 : Int32))
  else (
  some (1 : Int32)))
  else if p0 = (2005 : Int32) then (
  if p1 ≤ p3 then (
  some (0 : Int32))
  else (
  some (1 : Int32)))
  else if p0 = (2006 : Int32) then (
  if p1 = (0 : Int64) then (
  some (0 : Int32))
  else (
  if p3 = (0 : Int64) then (
  some (0 : Int32))
  else (
  some (1 : Int32))))
  else if p0 = (2007 : Int32) then (
  if p1 = (0 : Int64) then (
  if p3 = (0 : Int64) then (
  some (0 : Int32))
  else (
  some (1 : Int32)))
  else (
  some (1 : Int32)))
  else (
  f_X3_joined_148 (0 : Int64))
theorem k_X3_joined {l : Launch} {G : zz_G} (hN : 107 ≤ zz_N G) : ∀ (p0 : Int32) (p1 : Int64) (p3 : Int64) (m : zz_Mem), zz_Con zz_sh l G mX3_joined 0 [.int p0, .long p1, .long p3] zz_vIr (zz_mC m) (f_X3_joined p0 p1 p3) m := by
  intro p0 p1 p3 m
  refine zz_con (lv := [(0, .int p0), (1, .long p1), (3, .long p3)]) (by decide +kernel) (Nat.le_of_ble_eq_true rfl) rfl ?_
  unfold f_X3_joined
  refine zs_lconst (v := (0 : Int64)) dX3_joined_0 rfl ?_
  refine zs_lstore [(5, .long (0 : Int64)), (0, .int p0), (1, .long p1), (3, .long p3)] dX3_joined_1 (Nat.le_of_ble_eq_true rfl) rfl ?_
  refine zs_iload_n dX3_joined_3 rfl 1 rfl ?_
  refine zs_ite (fun h1 => ?_) (fun h1 => ?_)
  · refine zs_tswI (tgt := 52) h1 dX3_joined_4 (by decide) (by decide) rfl (by decide) ?_
    refine zs_lload_n dX3_joined_52 rfl 2 rfl ?_
    refine zs_lload_n dX3_joined_53 rfl 3 rfl ?_
    refine zs_ladd dX3_joined_54 ?_
    refine zs_letJ (fun y2 => ?_)
    refine zs_lstore [(5, .long y2), (0, .int p0), (1, .long p1), (3, .long p3)] dX3_joined_55 (Nat.le_of_ble_eq_true rfl) rfl ?_
    refine zs_goto (tgt := 148) dX3_joined_57 (by decide) ?_
    refine zs_sub [0] rfl ?_
    exact t_X3_joined_148 hN _
  refine zs_ite (fun h3 => ?_) (fun h3 => ?_)
  · refine zs_tswI (tgt := 60) h3 dX3_joined_4 (by decide) (by decide) rfl (by decide) ?_
    refine zs_lload_n dX3_joined_60 rfl 2 rfl ?_
    refine zs_lload_n dX3_joined_61 rfl 3 rfl ?_
    refine zs_lsub dX3_joined_62 ?_
    refine zs_letJ (fun y4 => ?_)
    refine zs_lstore [(5, .long y4), (0, .int p0), (1, .long p1), (3, .long p3)] dX3_joined_63 (Nat.le_of_ble_eq_true rfl) rfl ?_
    refine zs_goto (tgt := 148) dX3_joined_65 (by decide) ?_
    refine zs_sub [0] rfl ?_
    exact t_X3_joined_148 hN _
  refine zs_ite (fun h5 => ?_) (fun h5 => ?_)
  · refine zs_tswI (tgt := 68) h5 dX3_joined_4 (by decide) (by decide) rfl (by decide) ?_
    refine zs_lload_n dX3_joined_68 rfl 2 rfl ?_
    refine zs_lload_n dX3_joined_69 rfl 3 rfl ?_
    refine zs_lmul dX3_joined_70 ?_
    refine zs_letJ (fun y6 => ?_)
    refine zs_lstore [(5, .long y6), (0, .int p0), (1, .long p1), (3, .long p3)] dX3_joined_71 (Nat.le_of_ble_eq_true rfl) rfl ?_
    refine zs_goto (tgt := 148) dX3_joined_73 (by decide) ?_
    refine zs_sub [0] rfl ?_
    exact t_X3_joined_148 hN _
  refine zs_ite (fun h7 => ?_) (fun h7 => ?_)
  · refine zs_tswI (tgt := 76) h7 dX3_joined_4 (by decide) (by decide) rfl (by decide) ?_
    refine zs_lload_n dX3_joined_76 rfl 2 rfl ?_
    refine zs_lload_n dX3_joined_77 rfl 3 rfl ?_
    refine zs_lcmp_ne (tgt := 86) dX3_joined_78 dX3_joined_79 (by decide) ?_ ?_
    · refine zs_iconst (v := (0 : Int32)) dX3_joined_86 ci_0 ?_
      exact zs_iret dX3_joined_87 rfl rfl rfl
    · refine zs_iconst (v := (1 : Int32)) dX3_joined_82 ci_1 ?_
      refine zs_goto (tgt := 87) dX3_joined_83 (by decide) ?_
      exact zs_iret dX3_joined_87 rfl rfl rfl
  refine zs_ite (fun h8 => ?_) (fun h8 => ?_)
  · refine zs_tswI (tgt := 88) h8 dX3_joined_4 (by decide) (by decide) rfl (by decide) ?_
    refine zs_lload_n dX3_joined_88 rfl 2 rfl ?_
    refine zs_lload_n dX3_joined_89 rfl 3 rfl ?_
    refine zs_lcmp_ge (tgt := 98) dX3_joined_90 dX3_joined_91 (by decide) ?_ ?_
    · refine zs_iconst (v := (0 : Int32)) dX3_joined_98 ci_0 ?_
      exact zs_iret dX3_joined_99 rfl rfl rfl
    · refine zs_iconst (v := (1 : Int32)) dX3_joined_94 ci_1 ?_
      refine zs_goto (tgt := 99) dX3_joined_95 (by decide) ?_
      exact zs_iret dX3_joined_99 rfl rfl rfl
  refine zs_ite (fun h9 => ?_) (fun h9 => ?_)
  · refine zs_tswI (tgt := 100) h9 dX3_joined_4 (by decide) (by decide) rfl (by decide) ?_
    refine zs_lload_n dX3_joined_100 rfl 2 rfl ?_
    refine zs_lload_n dX3_joined_101 rfl 3 rfl ?_
    refine zs_lcmp_le (tgt := 110) dX3_joined_102 dX3_joined_103 (by decide) ?_ ?_
    · refine zs_iconst (v := (0 : Int32)) dX3_joined_110 ci_0 ?_
      exact zs_iret dX3_joined_111 rfl rfl rfl
    · refine zs_iconst (v := (1 : Int32)) dX3_joined_106 ci_1 ?_
      refine zs_goto (tgt := 111) dX3_joined_107 (by decide) ?_
      exact zs_iret dX3_joined_111 rfl rfl rfl
  refine zs_ite (fun h10 => ?_) (fun h10 => ?_)
  · refine zs_tswI (tgt := 112) h10 dX3_joined_4 (by decide) (by decide) rfl (by decide) ?_
    refine zs_lload_n dX3_joined_112 rfl 2 rfl ?_
    refine zs_lconst (v := (0 : Int64)) dX3_joined_113 rfl ?_
    refine zs_lcmp_eq (tgt := 128) dX3_joined_114 dX3_joined_115 (by decide) ?_ ?_
    · refine zs_iconst (v := (0 : Int32)) dX3_joined_128 ci_0 ?_
      exact zs_iret dX3_joined_129 rfl rfl rfl
    · refine zs_lload_n dX3_joined_118 rfl 3 rfl ?_
      refine zs_lconst (v := (0 : Int64)) dX3_joined_119 rfl ?_
      refine zs_lcmp_eq (tgt := 128) dX3_joined_120 dX3_joined_121 (by decide) ?_ ?_
      · refine zs_iconst (v := (0 : Int32)) dX3_joined_128 ci_0 ?_
        exact zs_iret dX3_joined_129 rfl rfl rfl
      · refine zs_iconst (v := (1 : Int32)) dX3_joined_124 ci_1 ?_
        refine zs_goto (tgt := 129) dX3_joined_125 (by decide) ?_
        exact zs_iret dX3_joined_129 rfl rfl rfl
  refine zs_ite (fun h11 => ?_) (fun h11 => ?_)
  · refine zs_tswI (tgt := 130) h11 dX3_joined_4 (by decide) (by decide) rfl (by decide) ?_
    refine zs_lload_n dX3_joined_130 rfl 2 rfl ?_
    refine zs_lconst (v := (0 : Int64)) dX3_joined_131 rfl ?_
    refine zs_lcmp_ne (tgt := 142) dX3_joined_132 dX3_joined_133 (by decide) ?_ ?_
    · refine zs_iconst (v := (1 : Int32)) dX3_joined_142 ci_1 ?_
      refine zs_goto (tgt := 147) dX3_joined_143 (by decide) ?_
      exact zs_iret dX3_joined_147 rfl rfl rfl
    · refine zs_lload_n dX3_joined_136 rfl 3 rfl ?_
      refine zs_lconst (v := (0 : Int64)) dX3_joined_137 rfl ?_
      refine zs_lcmp_eq (tgt := 146) dX3_joined_138 dX3_joined_139 (by decide) ?_ ?_
      · refine zs_iconst (v := (0 : Int32)) dX3_joined_146 ci_0 ?_
        exact zs_iret dX3_joined_147 rfl rfl rfl
      · refine zs_iconst (v := (1 : Int32)) dX3_joined_142 ci_1 ?_
        refine zs_goto (tgt := 147) dX3_joined_143 (by decide) ?_
        exact zs_iret dX3_joined_147 rfl rfl rfl
  refine zs_tswO (tgt := 148) dX3_joined_4 (by have eh1 := lv_neT h1 (a := 2000) rfl; have eh3 := lv_neT h3 (a := 2001) rfl; have eh5 := lv_neT h5 (a := 2002) rfl; have eh7 := lv_neT h7 (a := 2003) rfl; have eh8 := lv_neT h8 (a := 2004) rfl; have eh9 := lv_neT h9 (a := 2005) rfl; have eh10 := lv_neT h10 (a := 2006) rfl; have eh11 := lv_neT h11 (a := 2007) rfl; omega) (by decide) ?_
  refine zs_sub [0] rfl ?_
  exact t_X3_joined_148 hN _
/-! X3_value: PillarDesk$Laws.value(II)I -/
theorem dX3_value_0 : decode cX3_value 0 = .ok (.iconst 0, 1) := by decide +kernel
theorem dX3_value_1 : decode cX3_value 1 = .ok (.istore_n 3, 1) := by decide +kernel
theorem dX3_value_2 : decode cX3_value 2 = .ok (.iload_n 1, 1) := by decide +kernel
theorem dX3_value_3 : decode cX3_value 3 = .ok (.istore 4, 2) := by decide +kernel
theorem dX3_value_5 : decode cX3_value 5 = .ok (.iload 4, 2) := by decide +kernel
theorem dX3_value_7 : decode cX3_value 7 = .ok (.iload_n 2, 1) := by decide +kernel
theorem dX3_value_8 : decode cX3_value 8 = .ok (.if_icmp .ge 219, 3) := by decide +kernel
theorem dX3_value_11 : decode cX3_value 11 = .ok (.iload 4, 2) := by decide +kernel
theorem dX3_value_13 : decode cX3_value 13 = .ok (.aload_n 0, 1) := by decide +kernel
theorem dX3_value_14 : decode cX3_value 14 = .ok (.getfield 9, 3) := by decide +kernel
theorem dX3_value_17 : decode cX3_value 17 = .ok (.arraylength, 1) := by decide +kernel
theorem dX3_value_18 : decode cX3_value 18 = .ok (.if_icmp .ge 209, 3) := by decide +kernel
theorem dX3_value_21 : decode cX3_value 21 = .ok (.aload_n 0, 1) := by decide +kernel
theorem dX3_value_22 : decode cX3_value 22 = .ok (.getfield 9, 3) := by decide +kernel
theorem dX3_value_25 : decode cX3_value 25 = .ok (.iload 4, 2) := by decide +kernel
theorem dX3_value_27 : decode cX3_value 27 = .ok (.iaload, 1) := by decide +kernel
theorem dX3_value_28 : decode cX3_value 28 = .ok (.istore 5, 2) := by decide +kernel
theorem dX3_value_30 : decode cX3_value 30 = .ok (.iload 5, 2) := by decide +kernel
theorem dX3_value_32 : decode cX3_value 32 = .ok (.sipush 2000, 3) := by decide +kernel
theorem dX3_value_35 : decode cX3_value 35 = .ok (.if_icmp .ge 60, 3) := by decide +kernel
theorem dX3_value_38 : decode cX3_value 38 = .ok (.iload_n 3, 1) := by decide +kernel
theorem dX3_value_39 : decode cX3_value 39 = .ok (.aload_n 0, 1) := by decide +kernel
theorem dX3_value_40 : decode cX3_value 40 = .ok (.getfield 18, 3) := by decide +kernel
theorem dX3_value_43 : decode cX3_value 43 = .ok (.arraylength, 1) := by decide +kernel
theorem dX3_value_44 : decode cX3_value 44 = .ok (.if_icmp .lt 5, 3) := by decide +kernel
theorem dX3_value_47 : decode cX3_value 47 = .ok (.iconst 0, 1) := by decide +kernel
theorem dX3_value_48 : decode cX3_value 48 = .ok (.ireturn, 1) := by decide +kernel
theorem dX3_value_49 : decode cX3_value 49 = .ok (.aload_n 0, 1) := by decide +kernel
theorem dX3_value_50 : decode cX3_value 50 = .ok (.getfield 18, 3) := by decide +kernel
theorem dX3_value_53 : decode cX3_value 53 = .ok (.iload_n 3, 1) := by decide +kernel
theorem dX3_value_54 : decode cX3_value 54 = .ok (.iload 5, 2) := by decide +kernel
theorem dX3_value_56 : decode cX3_value 56 = .ok (.sipush 1000, 3) := by decide +kernel
theorem dX3_value_59 : decode cX3_value 59 = .ok (.if_icmp .ge 8, 3) := by decide +kernel
theorem dX3_value_62 : decode cX3_value 62 = .ok (.iload 5, 2) := by decide +kernel
theorem dX3_value_64 : decode cX3_value 64 = .ok (.goto 24, 3) := by decide +kernel
theorem dX3_value_67 : decode cX3_value 67 = .ok (.aload_n 0, 1) := by decide +kernel
theorem dX3_value_68 : decode cX3_value 68 = .ok (.getfield 15, 3) := by decide +kernel
theorem dX3_value_71 : decode cX3_value 71 = .ok (.iload 5, 2) := by decide +kernel
theorem dX3_value_73 : decode cX3_value 73 = .ok (.sipush 1000, 3) := by decide +kernel
theorem dX3_value_76 : decode cX3_value 76 = .ok (.isub, 1) := by decide +kernel
theorem dX3_value_77 : decode cX3_value 77 = .ok (.aload_n 0, 1) := by decide +kernel
theorem dX3_value_78 : decode cX3_value 78 = .ok (.getfield 15, 3) := by decide +kernel
theorem dX3_value_81 : decode cX3_value 81 = .ok (.arraylength, 1) := by decide +kernel
theorem dX3_value_82 : decode cX3_value 82 = .ok (.iconst 1, 1) := by decide +kernel
theorem dX3_value_83 : decode cX3_value 83 = .ok (.isub, 1) := by decide +kernel
theorem dX3_value_84 : decode cX3_value 84 = .ok (.invokestatic 43, 3) := by decide +kernel
theorem dX3_value_87 : decode cX3_value 87 = .ok (.iaload, 1) := by decide +kernel
theorem dX3_value_88 : decode cX3_value 88 = .ok (.iastore, 1) := by decide +kernel
theorem dX3_value_89 : decode cX3_value 89 = .ok (.iinc 3 1, 3) := by decide +kernel
theorem dX3_value_92 : decode cX3_value 92 = .ok (.goto 129, 3) := by decide +kernel
theorem dX3_value_95 : decode cX3_value 95 = .ok (.iload 5, 2) := by decide +kernel
theorem dX3_value_97 : decode cX3_value 97 = .ok (.sipush 2008, 3) := by decide +kernel
theorem dX3_value_100 : decode cX3_value 100 = .ok (.if_icmp .ne 29, 3) := by decide +kernel
theorem dX3_value_103 : decode cX3_value 103 = .ok (.iload_n 3, 1) := by decide +kernel
theorem dX3_value_104 : decode cX3_value 104 = .ok (.iconst 1, 1) := by decide +kernel
theorem dX3_value_105 : decode cX3_value 105 = .ok (.if_icmp .lt 116, 3) := by decide +kernel
theorem dX3_value_108 : decode cX3_value 108 = .ok (.aload_n 0, 1) := by decide +kernel
theorem dX3_value_109 : decode cX3_value 109 = .ok (.getfield 18, 3) := by decide +kernel
theorem dX3_value_112 : decode cX3_value 112 = .ok (.iload_n 3, 1) := by decide +kernel
theorem dX3_value_113 : decode cX3_value 113 = .ok (.iconst 1, 1) := by decide +kernel
theorem dX3_value_114 : decode cX3_value 114 = .ok (.isub, 1) := by decide +kernel
theorem dX3_value_115 : decode cX3_value 115 = .ok (.iconst 1, 1) := by decide +kernel
theorem dX3_value_116 : decode cX3_value 116 = .ok (.aload_n 0, 1) := by decide +kernel
theorem dX3_value_117 : decode cX3_value 117 = .ok (.getfield 18, 3) := by decide +kernel
theorem dX3_value_120 : decode cX3_value 120 = .ok (.iload_n 3, 1) := by decide +kernel
theorem dX3_value_121 : decode cX3_value 121 = .ok (.iconst 1, 1) := by decide +kernel
theorem dX3_value_122 : decode cX3_value 122 = .ok (.isub, 1) := by decide +kernel
theorem dX3_value_123 : decode cX3_value 123 = .ok (.iaload, 1) := by decide +kernel
theorem dX3_value_124 : decode cX3_value 124 = .ok (.isub, 1) := by decide +kernel
theorem dX3_value_125 : decode cX3_value 125 = .ok (.iastore, 1) := by decide +kernel
theorem dX3_value_126 : decode cX3_value 126 = .ok (.goto 95, 3) := by decide +kernel
theorem dX3_value_129 : decode cX3_value 129 = .ok (.iload 5, 2) := by decide +kernel
theorem dX3_value_131 : decode cX3_value 131 = .ok (.sipush 2009, 3) := by decide +kernel
theorem dX3_value_134 : decode cX3_value 134 = .ok (.if_icmp .ne 50, 3) := by decide +kernel
theorem dX3_value_137 : decode cX3_value 137 = .ok (.iload_n 3, 1) := by decide +kernel
theorem dX3_value_138 : decode cX3_value 138 = .ok (.iconst 3, 1) := by decide +kernel
theorem dX3_value_139 : decode cX3_value 139 = .ok (.if_icmp .lt 82, 3) := by decide +kernel
theorem dX3_value_142 : decode cX3_value 142 = .ok (.iinc 3 (-2), 3) := by decide +kernel
theorem dX3_value_145 : decode cX3_value 145 = .ok (.aload_n 0, 1) := by decide +kernel
theorem dX3_value_146 : decode cX3_value 146 = .ok (.getfield 18, 3) := by decide +kernel
theorem dX3_value_149 : decode cX3_value 149 = .ok (.iload_n 3, 1) := by decide +kernel
theorem dX3_value_150 : decode cX3_value 150 = .ok (.iconst 1, 1) := by decide +kernel
theorem dX3_value_151 : decode cX3_value 151 = .ok (.isub, 1) := by decide +kernel
theorem dX3_value_152 : decode cX3_value 152 = .ok (.aload_n 0, 1) := by decide +kernel
theorem dX3_value_153 : decode cX3_value 153 = .ok (.getfield 18, 3) := by decide +kernel
theorem dX3_value_156 : decode cX3_value 156 = .ok (.iload_n 3, 1) := by decide +kernel
theorem dX3_value_157 : decode cX3_value 157 = .ok (.iconst 1, 1) := by decide +kernel
theorem dX3_value_158 : decode cX3_value 158 = .ok (.isub, 1) := by decide +kernel
theorem dX3_value_159 : decode cX3_value 159 = .ok (.iaload, 1) := by decide +kernel
theorem dX3_value_160 : decode cX3_value 160 = .ok (.ifCond .eq 12, 3) := by decide +kernel
theorem dX3_value_163 : decode cX3_value 163 = .ok (.aload_n 0, 1) := by decide +kernel
theorem dX3_value_164 : decode cX3_value 164 = .ok (.getfield 18, 3) := by decide +kernel
theorem dX3_value_167 : decode cX3_value 167 = .ok (.iload_n 3, 1) := by decide +kernel
theorem dX3_value_168 : decode cX3_value 168 = .ok (.iaload, 1) := by decide +kernel
theorem dX3_value_169 : decode cX3_value 169 = .ok (.goto 11, 3) := by decide +kernel
theorem dX3_value_172 : decode cX3_value 172 = .ok (.aload_n 0, 1) := by decide +kernel
theorem dX3_value_173 : decode cX3_value 173 = .ok (.getfield 18, 3) := by decide +kernel
theorem dX3_value_176 : decode cX3_value 176 = .ok (.iload_n 3, 1) := by decide +kernel
theorem dX3_value_177 : decode cX3_value 177 = .ok (.iconst 1, 1) := by decide +kernel
theorem dX3_value_178 : decode cX3_value 178 = .ok (.iadd, 1) := by decide +kernel
theorem dX3_value_179 : decode cX3_value 179 = .ok (.iaload, 1) := by decide +kernel
theorem dX3_value_180 : decode cX3_value 180 = .ok (.iastore, 1) := by decide +kernel
theorem dX3_value_181 : decode cX3_value 181 = .ok (.goto 40, 3) := by decide +kernel
theorem dX3_value_184 : decode cX3_value 184 = .ok (.iload_n 3, 1) := by decide +kernel
theorem dX3_value_185 : decode cX3_value 185 = .ok (.iconst 2, 1) := by decide +kernel
theorem dX3_value_186 : decode cX3_value 186 = .ok (.if_icmp .lt 35, 3) := by decide +kernel
theorem dX3_value_189 : decode cX3_value 189 = .ok (.iinc 3 (-1), 3) := by decide +kernel
theorem dX3_value_192 : decode cX3_value 192 = .ok (.aload_n 0, 1) := by decide +kernel
theorem dX3_value_193 : decode cX3_value 193 = .ok (.getfield 18, 3) := by decide +kernel
theorem dX3_value_196 : decode cX3_value 196 = .ok (.iload_n 3, 1) := by decide +kernel
theorem dX3_value_197 : decode cX3_value 197 = .ok (.iconst 1, 1) := by decide +kernel
theorem dX3_value_198 : decode cX3_value 198 = .ok (.isub, 1) := by decide +kernel
theorem dX3_value_199 : decode cX3_value 199 = .ok (.iload 5, 2) := by decide +kernel
theorem dX3_value_201 : decode cX3_value 201 = .ok (.aload_n 0, 1) := by decide +kernel
theorem dX3_value_202 : decode cX3_value 202 = .ok (.getfield 18, 3) := by decide +kernel
theorem dX3_value_205 : decode cX3_value 205 = .ok (.iload_n 3, 1) := by decide +kernel
theorem dX3_value_206 : decode cX3_value 206 = .ok (.iconst 1, 1) := by decide +kernel
theorem dX3_value_207 : decode cX3_value 207 = .ok (.isub, 1) := by decide +kernel
theorem dX3_value_208 : decode cX3_value 208 = .ok (.iaload, 1) := by decide +kernel
theorem dX3_value_209 : decode cX3_value 209 = .ok (.i2l, 1) := by decide +kernel
theorem dX3_value_210 : decode cX3_value 210 = .ok (.aload_n 0, 1) := by decide +kernel
theorem dX3_value_211 : decode cX3_value 211 = .ok (.getfield 18, 3) := by decide +kernel
theorem dX3_value_214 : decode cX3_value 214 = .ok (.iload_n 3, 1) := by decide +kernel
theorem dX3_value_215 : decode cX3_value 215 = .ok (.iaload, 1) := by decide +kernel
theorem dX3_value_216 : decode cX3_value 216 = .ok (.i2l, 1) := by decide +kernel
theorem dX3_value_217 : decode cX3_value 217 = .ok (.invokestatic 49, 3) := by decide +kernel
theorem dX3_value_220 : decode cX3_value 220 = .ok (.iastore, 1) := by decide +kernel
theorem dX3_value_221 : decode cX3_value 221 = .ok (.iinc 4 1, 3) := by decide +kernel
theorem dX3_value_224 : decode cX3_value 224 = .ok (.goto (-219), 3) := by decide +kernel
theorem dX3_value_227 : decode cX3_value 227 = .ok (.iload_n 3, 1) := by decide +kernel
theorem dX3_value_228 : decode cX3_value 228 = .ok (.ifCond .le 12, 3) := by decide +kernel
theorem dX3_value_231 : decode cX3_value 231 = .ok (.aload_n 0, 1) := by decide +kernel
theorem dX3_value_232 : decode cX3_value 232 = .ok (.getfield 18, 3) := by decide +kernel
theorem dX3_value_235 : decode cX3_value 235 = .ok (.iconst 0, 1) := by decide +kernel
theorem dX3_value_236 : decode cX3_value 236 = .ok (.iaload, 1) := by decide +kernel
theorem dX3_value_237 : decode cX3_value 237 = .ok (.goto 4, 3) := by decide +kernel
theorem dX3_value_240 : decode cX3_value 240 = .ok (.iconst 0, 1) := by decide +kernel
theorem dX3_value_241 : decode cX3_value 241 = .ok (.ireturn, 1) := by decide +kernel
def f_X3_value_227   (v3 : Int32) (m : zz_Mem) : Option (Int32 × zz_Mem) :=
  if v3 ≤ 0 then (
  some ((0 : Int32), m))
  else (
  some (m.1 12 0, m))
theorem t_X3_value_227 {l : Launch} {G : zz_G} (hN : 107 ≤ zz_N G)  : ∀ (v3 : Int32) (m : zz_Mem), zz_Sim zz_sh l G mX3_value 1 zz_vI zz_m2 (f_X3_value_227 v3 m) 227 [(0, .ref (zz_a G 9)), (3, .int v3)] [] m := by
  intro v3 m
  unfold f_X3_value_227
  refine zs_iload_n dX3_value_227 rfl 1 rfl ?_
  refine zs_if_le (tgt := 240) dX3_value_228 (by decide) ?_ ?_
  · refine zs_iconst (v := (0 : Int32)) dX3_value_240 ci_0 ?_
    exact zs_iret dX3_value_241 rfl rfl rfl
  · refine zs_aload_n dX3_value_231 rfl 0 rfl ?_
    refine zs_getR fl_X3_18 dX3_value_232 (sh_9 hN) rfl ?_
    refine zs_iconst (v := (0 : Int32)) dX3_value_235 ci_0 ?_
    refine zs_ialdC dX3_value_236 (sh_12 hN) vin_0_64 clp_0 ?_
    refine zs_goto (tgt := 241) dX3_value_237 (by decide) ?_
    exact zs_iret dX3_value_241 rfl rfl rfl
def f_X3_value_180  (k5 : Int32 → Int32 → Int32 → zz_Mem → Option (Int32 × zz_Mem)) (v2 : Int32) (v3 : Int32) (v4 : Int32) (s0 : Int32) (s1 : Int32) (m : zz_Mem) : Option (Int32 × zz_Mem) :=
  zz_ix s1 64 <| zz_letM (zz_setI m 12 s1.toNatClampNeg s0) fun m1 =>
  zz_letI (v4 + (1 : Int32)) fun x2 =>
  k5 v2 v3 x2 m1
theorem t_X3_value_180 {l : Launch} {G : zz_G} (hN : 107 ≤ zz_N G) {k5 : Int32 → Int32 → Int32 → zz_Mem → Option (Int32 × zz_Mem)} (hk5 : ∀ (v2 : Int32) (v3 : Int32) (v4 : Int32) (m : zz_Mem), zz_Sim zz_sh l G mX3_value 1 zz_vI zz_m2 (k5 v2 v3 v4 m) 5 [(0, .ref (zz_a G 9)), (2, .int v2), (3, .int v3), (4, .int v4)] [] m) : ∀ (v2 : Int32) (v3 : Int32) (v4 : Int32) (s0 : Int32) (s1 : Int32) (m : zz_Mem), zz_Sim zz_sh l G mX3_value 1 zz_vI zz_m2 (f_X3_value_180 k5 v2 v3 v4 s0 s1 m) 180 [(0, .ref (zz_a G 9)), (2, .int v2), (3, .int v3), (4, .int v4)] [.int s0, .int s1, .ref (zz_a G 12)] m := by
  intro v2 v3 v4 s0 s1 m
  unfold f_X3_value_180
  refine zs_iastG dX3_value_180 (sh_12 hN) (fun m1 => ?_)
  refine zs_goto (tgt := 221) dX3_value_181 (by decide) ?_
  refine zs_iinc (fun y => [(4, .int y), (0, .ref (zz_a G 9)), (2, .int v2), (3, .int v3)]) dX3_value_221 3 rfl ci_1 (Nat.le_of_ble_eq_true rfl) (fun _ => rfl) (fun x2 => ?_)
  refine zs_goto (tgt := 5) dX3_value_224 (by decide) ?_
  refine zs_sub [1, 2, 3, 0] rfl ?_
  exact hk5 _ _ _ _
def f_X3_value_88  (k5 : Int32 → Int32 → Int32 → zz_Mem → Option (Int32 × zz_Mem)) (v2 : Int32) (v3 : Int32) (v4 : Int32) (s0 : Int32) (s1 : Int32) (m : zz_Mem) : Option (Int32 × zz_Mem) :=
  zz_ix s1 64 <| zz_letM (zz_setI m 12 s1.toNatClampNeg s0) fun m1 =>
  zz_letI (v3 + (1 : Int32)) fun x2 =>
  zz_letI (v4 + (1 : Int32)) fun x3 =>
  k5 v2 x2 x3 m1
theorem t_X3_value_88 {l : Launch} {G : zz_G} (hN : 107 ≤ zz_N G) {k5 : Int32 → Int32 → Int32 → zz_Mem → Option (Int32 × zz_Mem)} (hk5 : ∀ (v2 : Int32) (v3 : Int32) (v4 : Int32) (m : zz_Mem), zz_Sim zz_sh l G mX3_value 1 zz_vI zz_m2 (k5 v2 v3 v4 m) 5 [(0, .ref (zz_a G 9)), (2, .int v2), (3, .int v3), (4, .int v4)] [] m) : ∀ (v2 : Int32) (v3 : Int32) (v4 : Int32) (s0 : Int32) (s1 : Int32) (m : zz_Mem), zz_Sim zz_sh l G mX3_value 1 zz_vI zz_m2 (f_X3_value_88 k5 v2 v3 v4 s0 s1 m) 88 [(0, .ref (zz_a G 9)), (2, .int v2), (3, .int v3), (4, .int v4)] [.int s0, .int s1, .ref (zz_a G 12)] m := by
  intro v2 v3 v4 s0 s1 m
  unfold f_X3_value_88
  refine zs_iastG dX3_value_88 (sh_12 hN) (fun m1 => ?_)
  refine zs_iinc (fun y => [(3, .int y), (0, .ref (zz_a G 9)), (2, .int v2), (4, .int v4)]) dX3_value_89 2 rfl ci_1 (Nat.le_of_ble_eq_true rfl) (fun _ => rfl) (fun x2 => ?_)
  refine zs_goto (tgt := 221) dX3_value_92 (by decide) ?_
  refine zs_iinc (fun y => [(4, .int y), (3, .int x2), (0, .ref (zz_a G 9)), (2, .int v2)]) dX3_value_221 3 rfl ci_1 (Nat.le_of_ble_eq_true rfl) (fun _ => rfl) (fun x3 => ?_)
  refine zs_goto (tgt := 5) dX3_value_224 (by decide) ?_
  refine zs_sub [2, 3, 1, 0] rfl ?_
  exact hk5 _ _ _ _
def f_X3_value_5   : Nat → Int32 → Int32 → Int32 → zz_Mem → Option (Int32 × zz_Mem)
  | 0, _, _, _, _ => none
  | n + 1, v2, v3, v4, m =>
  if v2 ≤ v4 then (
  f_X3_value_227 v3 m)
  else (
  if (900 : Int32) ≤ v4 then (
  f_X3_value_227 v3 m)
  else (
  zz_ix v4 900 <|
  zz_letI (m.1 10 v4.toNatClampNeg) fun x1 =>
  if (2000 : Int32) ≤ x1 then (
  if x1 = (2008 : Int32) then (
  if v3 < (1 : Int32) then (
  zz_letI (v4 + (1 : Int32)) fun x9 =>
  f_X3_value_5 n v2 v3 x9 m)
  else (
  zz_ix (v3 - (1 : Int32)) 64 <|
  zz_ix (v3 - (1 : Int32)) 64 <| zz_letM (zz_setI m 12 (v3 - (1 : Int32)).toNatClampNeg ((1 : Int32) - (m.1 12 (v3 - (1 : Int32)).toNatClampNeg))) fun m10 =>
  zz_letI (v4 + (1 : Int32)) fun x11 =>
  f_X3_value_5 n v2 v3 x11 m10))
  else (
  if x1 = (2009 : Int32) then (
  if v3 < (3 : Int32) then (
  zz_letI (v4 + (1 : Int32)) fun x7 =>
  f_X3_value_5 n v2 v3 x7 m)
  else (
  zz_letI (v3 + (-2 : Int32)) fun x8 =>
  zz_ix (x8 - (1 : Int32)) 64 <|
  if (m.1 12 (x8 - (1 : Int32)).toNatClampNeg) = 0 then (
  zz_ix (x8 + (1 : Int32)) 64 <|
  f_X3_value_180 (f_X3_value_5 n) v2 x8 v4 (m.1 12 (x8 + (1 : Int32)).toNatClampNeg) (x8 - (1 : Int32)) m)
  else (
  zz_ix x8 64 <|
  f_X3_value_180 (f_X3_value_5 n) v2 x8 v4 (m.1 12 x8.toNatClampNeg) (x8 - (1 : Int32)) m)))
  else (
  if v3 < (2 : Int32) then (
  zz_letI (v4 + (1 : Int32)) fun x2 =>
  f_X3_value_5 n v2 v3 x2 m)
  else (
  zz_letI (v3 + (-1 : Int32)) fun x3 =>
  zz_ix (x3 - (1 : Int32)) 64 <|
  zz_ix x3 64 <|
  zz_bndR (f_X3_joined x1 ((m.1 12 (x3 - (1 : Int32)).toNatClampNeg).toInt64) ((m.1 12 x3.toNatClampNeg).toInt64)) fun r4 =>
  zz_ix (x3 - (1 : Int32)) 64 <| zz_letM (zz_setI m 12 (x3 - (1 : Int32)).toNatClampNeg r4) fun m5 =>
  zz_letI (v4 + (1 : Int32)) fun x6 =>
  f_X3_value_5 n v2 x3 x6 m5))))
  else (
  if v3 < (64 : Int32) then (
  if (1000 : Int32) ≤ x1 then (
  zz_bndR (f_J9_min_7cf53 (x1 - (1000 : Int32)) ((5 : Int32) - (1 : Int32))) fun r12 =>
  zz_ix r12 5 <|
  f_X3_value_88 (f_X3_value_5 n) v2 v3 v4 (m.1 11 r12.toNatClampNeg) v3 m)
  else (
  f_X3_value_88 (f_X3_value_5 n) v2 v3 v4 x1 v3 m))
  else (
  some ((0 : Int32), m)))))
theorem t_X3_value_5 {l : Launch} {G : zz_G} (hN : 107 ≤ zz_N G)  : ∀ (n : Nat) (v2 : Int32) (v3 : Int32) (v4 : Int32) (m : zz_Mem), zz_Sim zz_sh l G mX3_value 1 zz_vI zz_m2 (f_X3_value_5 n v2 v3 v4 m) 5 [(0, .ref (zz_a G 9)), (2, .int v2), (3, .int v3), (4, .int v4)] [] m := by
  intro n
  induction n with
  | zero => intro _ _ _ _; exact zs_none
  | succ n ih =>
    intro v2 v3 v4 m
    rw [f_X3_value_5]
    refine zs_iload dX3_value_5 3 rfl ?_
    refine zs_iload_n dX3_value_7 rfl 1 rfl ?_
    refine zs_icmp_ge (tgt := 227) dX3_value_8 (by decide) ?_ ?_
    · refine zs_sub [0, 2] rfl ?_
      exact t_X3_value_227 hN _ _
    · refine zs_iload dX3_value_11 3 rfl ?_
      refine zs_aload_n dX3_value_13 rfl 0 rfl ?_
      refine zs_getR fl_X3_9 dX3_value_14 (sh_9 hN) rfl ?_
      refine zs_alen0 (v := (900 : Int32)) dX3_value_17 (sh_10 hN) al_900 ?_
      refine zs_icmp_ge (tgt := 227) dX3_value_18 (by decide) ?_ ?_
      · refine zs_sub [0, 2] rfl ?_
        exact t_X3_value_227 hN _ _
      · refine zs_aload_n dX3_value_21 rfl 0 rfl ?_
        refine zs_getR fl_X3_9 dX3_value_22 (sh_9 hN) rfl ?_
        refine zs_iload dX3_value_25 3 rfl ?_
        refine zs_ialdG dX3_value_27 (sh_10 hN) ?_
        refine zs_letI (fun x1 => ?_)
        refine zs_istore [(5, .int x1), (0, .ref (zz_a G 9)), (2, .int v2), (3, .int v3), (4, .int v4)] dX3_value_28 (Nat.le_of_ble_eq_true rfl) rfl ?_
        refine zs_iload dX3_value_30 0 rfl ?_
        refine zs_sipush (v := (2000 : Int32)) dX3_value_32 cs_2000 ?_
        refine zs_icmp_ge (tgt := 95) dX3_value_35 (by decide) ?_ ?_
        · refine zs_iload dX3_value_95 0 rfl ?_
          refine zs_sipush (v := (2008 : Int32)) dX3_value_97 cs_2008 ?_
          refine zs_icmp_ne (tgt := 129) dX3_value_100 (by decide) ?_ ?_
          · refine zs_iload dX3_value_129 0 rfl ?_
            refine zs_sipush (v := (2009 : Int32)) dX3_value_131 cs_2009 ?_
            refine zs_icmp_ne (tgt := 184) dX3_value_134 (by decide) ?_ ?_
            · refine zs_iload_n dX3_value_184 rfl 3 rfl ?_
              refine zs_iconst (v := (2 : Int32)) dX3_value_185 ci_2 ?_
              refine zs_icmp_lt (tgt := 221) dX3_value_186 (by decide) ?_ ?_
              · refine zs_iinc (fun y => [(4, .int y), (5, .int x1), (0, .ref (zz_a G 9)), (2, .int v2), (3, .int v3)]) dX3_value_221 4 rfl ci_1 (Nat.le_of_ble_eq_true rfl) (fun _ => rfl) (fun x2 => ?_)
                refine zs_goto (tgt := 5) dX3_value_224 (by decide) ?_
                refine zs_sub [2, 3, 4, 0] rfl ?_
                exact ih _ _ _ _
              · refine zs_iinc (fun y => [(3, .int y), (5, .int x1), (0, .ref (zz_a G 9)), (2, .int v2), (4, .int v4)]) dX3_value_189 3 rfl ci_m1 (Nat.le_of_ble_eq_true rfl) (fun _ => rfl) (fun x3 => ?_)
                refine zs_aload_n dX3_value_192 rfl 2 rfl ?_
                refine zs_getR fl_X3_18 dX3_value_193 (sh_9 hN) rfl ?_
                refine zs_iload_n dX3_value_196 rfl 0 rfl ?_
                refine zs_iconst (v := (1 : Int32)) dX3_value_197 ci_1 ?_
                refine zs_isub dX3_value_198 ?_
                refine zs_iload dX3_value_199 1 rfl ?_
                refine zs_aload_n dX3_value_201 rfl 2 rfl ?_
                refine zs_getR fl_X3_18 dX3_value_202 (sh_9 hN) rfl ?_
                refine zs_iload_n dX3_value_205 rfl 0 rfl ?_
                refine zs_iconst (v := (1 : Int32)) dX3_value_206 ci_1 ?_
                refine zs_isub dX3_value_207 ?_
                refine zs_ialdG dX3_value_208 (sh_12 hN) ?_
                refine zs_i2l dX3_value_209 ?_
                refine zs_aload_n dX3_value_210 rfl 2 rfl ?_
                refine zs_getR fl_X3_18 dX3_value_211 (sh_9 hN) rfl ?_
                refine zs_iload_n dX3_value_214 rfl 0 rfl ?_
                refine zs_ialdG dX3_value_215 (sh_12 hN) ?_
                refine zs_i2l dX3_value_216 ?_
                refine zs_cS_iR (rest := [.int (x3 - (1 : Int32)), .ref (zz_a G 12)]) (k_X3_joined hN _ _ _ _) dX3_value_217 ls_X3_49 ok_X3_joined (Nat.le_of_ble_eq_true rfl) rfl rfl (Nat.le_of_ble_eq_true rfl) (fun r4 => ?_)
                refine zs_iastG dX3_value_220 (sh_12 hN) (fun m5 => ?_)
                refine zs_iinc (fun y => [(4, .int y), (3, .int x3), (5, .int x1), (0, .ref (zz_a G 9)), (2, .int v2)]) dX3_value_221 4 rfl ci_1 (Nat.le_of_ble_eq_true rfl) (fun _ => rfl) (fun x6 => ?_)
                refine zs_goto (tgt := 5) dX3_value_224 (by decide) ?_
                refine zs_sub [3, 4, 1, 0] rfl ?_
                exact ih _ _ _ _
            · refine zs_iload_n dX3_value_137 rfl 3 rfl ?_
              refine zs_iconst (v := (3 : Int32)) dX3_value_138 ci_3 ?_
              refine zs_icmp_lt (tgt := 221) dX3_value_139 (by decide) ?_ ?_
              · refine zs_iinc (fun y => [(4, .int y), (5, .int x1), (0, .ref (zz_a G 9)), (2, .int v2), (3, .int v3)]) dX3_value_221 4 rfl ci_1 (Nat.le_of_ble_eq_true rfl) (fun _ => rfl) (fun x7 => ?_)
                refine zs_goto (tgt := 5) dX3_value_224 (by decide) ?_
                refine zs_sub [2, 3, 4, 0] rfl ?_
                exact ih _ _ _ _
              · refine zs_iinc (fun y => [(3, .int y), (5, .int x1), (0, .ref (zz_a G 9)), (2, .int v2), (4, .int v4)]) dX3_value_142 3 rfl ci_m2 (Nat.le_of_ble_eq_true rfl) (fun _ => rfl) (fun x8 => ?_)
                refine zs_aload_n dX3_value_145 rfl 2 rfl ?_
                refine zs_getR fl_X3_18 dX3_value_146 (sh_9 hN) rfl ?_
                refine zs_iload_n dX3_value_149 rfl 0 rfl ?_
                refine zs_iconst (v := (1 : Int32)) dX3_value_150 ci_1 ?_
                refine zs_isub dX3_value_151 ?_
                refine zs_aload_n dX3_value_152 rfl 2 rfl ?_
                refine zs_getR fl_X3_18 dX3_value_153 (sh_9 hN) rfl ?_
                refine zs_iload_n dX3_value_156 rfl 0 rfl ?_
                refine zs_iconst (v := (1 : Int32)) dX3_value_157 ci_1 ?_
                refine zs_isub dX3_value_158 ?_
                refine zs_ialdG dX3_value_159 (sh_12 hN) ?_
                refine zs_if_eq (tgt := 172) dX3_value_160 (by decide) ?_ ?_
                · refine zs_aload_n dX3_value_172 rfl 2 rfl ?_
                  refine zs_getR fl_X3_18 dX3_value_173 (sh_9 hN) rfl ?_
                  refine zs_iload_n dX3_value_176 rfl 0 rfl ?_
                  refine zs_iconst (v := (1 : Int32)) dX3_value_177 ci_1 ?_
                  refine zs_iadd dX3_value_178 ?_
                  refine zs_ialdG dX3_value_179 (sh_12 hN) ?_
                  refine zs_sub [2, 3, 0, 4] rfl ?_
                  exact t_X3_value_180 hN ih _ _ _ _ _ _
                · refine zs_aload_n dX3_value_163 rfl 2 rfl ?_
                  refine zs_getR fl_X3_18 dX3_value_164 (sh_9 hN) rfl ?_
                  refine zs_iload_n dX3_value_167 rfl 0 rfl ?_
                  refine zs_ialdG dX3_value_168 (sh_12 hN) ?_
                  refine zs_goto (tgt := 180) dX3_value_169 (by decide) ?_
                  refine zs_sub [2, 3, 0, 4] rfl ?_
                  exact t_X3_value_180 hN ih _ _ _ _ _ _
          · refine zs_iload_n dX3_value_103 rfl 3 rfl ?_
            refine zs_iconst (v := (1 : Int32)) dX3_value_104 ci_1 ?_
            refine zs_icmp_lt (tgt := 221) dX3_value_105 (by decide) ?_ ?_
            · refine zs_iinc (fun y => [(4, .int y), (5, .int x1), (0, .ref (zz_a G 9)), (2, .int v2), (3, .int v3)]) dX3_value_221 4 rfl ci_1 (Nat.le_of_ble_eq_true rfl) (fun _ => rfl) (fun x9 => ?_)
              refine zs_goto (tgt := 5) dX3_value_224 (by decide) ?_
              refine zs_sub [2, 3, 4, 0] rfl ?_
              exact ih _ _ _ _
            · refine zs_aload_n dX3_value_108 rfl 1 rfl ?_
              refine zs_getR fl_X3_18 dX3_value_109 (sh_9 hN) rfl ?_
              refine zs_iload_n dX3_value_112 rfl 3 rfl ?_
              refine zs_iconst (v := (1 : Int32)) dX3_value_113 ci_1 ?_
              refine zs_isub dX3_value_114 ?_
              refine zs_iconst (v := (1 : Int32)) dX3_value_115 ci_1 ?_
              refine zs_aload_n dX3_value_116 rfl 1 rfl ?_
              refine zs_getR fl_X3_18 dX3_value_117 (sh_9 hN) rfl ?_
              refine zs_iload_n dX3_value_120 rfl 3 rfl ?_
              refine zs_iconst (v := (1 : Int32)) dX3_value_121 ci_1 ?_
              refine zs_isub dX3_value_122 ?_
              refine zs_ialdG dX3_value_123 (sh_12 hN) ?_
              refine zs_isub dX3_value_124 ?_
              refine zs_iastG dX3_value_125 (sh_12 hN) (fun m10 => ?_)
              refine zs_goto (tgt := 221) dX3_value_126 (by decide) ?_
              refine zs_iinc (fun y => [(4, .int y), (5, .int x1), (0, .ref (zz_a G 9)), (2, .int v2), (3, .int v3)]) dX3_value_221 4 rfl ci_1 (Nat.le_of_ble_eq_true rfl) (fun _ => rfl) (fun x11 => ?_)
              refine zs_goto (tgt := 5) dX3_value_224 (by decide) ?_
              refine zs_sub [2, 3, 4, 0] rfl ?_
              exact ih _ _ _ _
        · refine zs_iload_n dX3_value_38 rfl 3 rfl ?_
          refine zs_aload_n dX3_value_39 rfl 1 rfl ?_
          refine zs_getR fl_X3_18 dX3_value_40 (sh_9 hN) rfl ?_
          refine zs_alen0 (v := (64 : Int32)) dX3_value_43 (sh_12 hN) al_64 ?_
          refine zs_icmp_lt (tgt := 49) dX3_value_44 (by decide) ?_ ?_
          · refine zs_aload_n dX3_value_49 rfl 1 rfl ?_
            refine zs_getR fl_X3_18 dX3_value_50 (sh_9 hN) rfl ?_
            refine zs_iload_n dX3_value_53 rfl 3 rfl ?_
            refine zs_iload dX3_value_54 0 rfl ?_
            refine zs_sipush (v := (1000 : Int32)) dX3_value_56 cs_1000 ?_
            refine zs_icmp_ge (tgt := 67) dX3_value_59 (by decide) ?_ ?_
            · refine zs_aload_n dX3_value_67 rfl 1 rfl ?_
              refine zs_getR fl_X3_15 dX3_value_68 (sh_9 hN) rfl ?_
              refine zs_iload dX3_value_71 0 rfl ?_
              refine zs_sipush (v := (1000 : Int32)) dX3_value_73 cs_1000 ?_
              refine zs_isub dX3_value_76 ?_
              refine zs_aload_n dX3_value_77 rfl 1 rfl ?_
              refine zs_getR fl_X3_15 dX3_value_78 (sh_9 hN) rfl ?_
              refine zs_alen0 (v := (5 : Int32)) dX3_value_81 (sh_11 hN) al_5 ?_
              refine zs_iconst (v := (1 : Int32)) dX3_value_82 ci_1 ?_
              refine zs_isub dX3_value_83 ?_
              refine zs_cS_iR (rest := [.ref (zz_a G 11), .int v3, .ref (zz_a G 12)]) (k_J9_min_7cf53 hN _ _ _) dX3_value_84 ls_X3_43 ok_J9_min_7cf53 (Nat.le_of_ble_eq_true rfl) rfl rfl (Nat.le_of_ble_eq_true rfl) (fun r12 => ?_)
              refine zs_ialdG dX3_value_87 (sh_11 hN) ?_
              refine zs_sub [1, 2, 3, 4] rfl ?_
              exact t_X3_value_88 hN ih _ _ _ _ _ _
            · refine zs_iload dX3_value_62 0 rfl ?_
              refine zs_goto (tgt := 88) dX3_value_64 (by decide) ?_
              refine zs_sub [1, 2, 3, 4] rfl ?_
              exact t_X3_value_88 hN ih _ _ _ _ _ _
          · refine zs_iconst (v := (0 : Int32)) dX3_value_47 ci_0 ?_
            exact zs_iret dX3_value_48 rfl rfl rfl
def f_X3_value  (p1 : Int32) (p2 : Int32) (m : zz_Mem) : Option (Int32 × zz_Mem) :=
  f_X3_value_5 zz_fuel p2 (0 : Int32) p1 m
theorem k_X3_value {l : Launch} {G : zz_G} (hN : 107 ≤ zz_N G) : ∀ (p1 : Int32) (p2 : Int32) (m : zz_Mem), zz_Con zz_sh l G mX3_value 1 [.ref (zz_a G 9), .int p1, .int p2] zz_vI zz_m2 (f_X3_value p1 p2 m) m := by
  intro p1 p2 m
  refine zz_con (lv := [(0, .ref (zz_a G 9)), (1, .int p1), (2, .int p2)]) (by decide +kernel) (Nat.le_of_ble_eq_true rfl) rfl ?_
  unfold f_X3_value
  refine zs_iconst (v := (0 : Int32)) dX3_value_0 ci_0 ?_
  refine zs_istore_n [(3, .int (0 : Int32)), (0, .ref (zz_a G 9)), (1, .int p1), (2, .int p2)] dX3_value_1 rfl (Nat.le_of_ble_eq_true rfl) rfl ?_
  refine zs_iload_n dX3_value_2 rfl 2 rfl ?_
  refine zs_istore [(4, .int p1), (3, .int (0 : Int32)), (0, .ref (zz_a G 9)), (1, .int p1), (2, .int p2)] dX3_value_3 (Nat.le_of_ble_eq_true rfl) rfl ?_
  refine zs_sub [2, 4, 1, 0] rfl ?_
  exact t_X3_value_5 hN zz_fuel _ _ _ _
/-! X5_clear: PillarDesk$Past.clear()V -/
theorem dX5_clear_0 : decode cX5_clear 0 = .ok (.aload_n 0, 1) := by decide +kernel
theorem dX5_clear_1 : decode cX5_clear 1 = .ok (.iconst 0, 1) := by decide +kernel
theorem dX5_clear_2 : decode cX5_clear 2 = .ok (.putfield 18, 3) := by decide +kernel
theorem dX5_clear_5 : decode cX5_clear 5 = .ok (.return_, 1) := by decide +kernel
def f_X5_clear   (m : zz_Mem) : Option zz_Mem :=
  zz_letM (zz_setI m 34 2 (0 : Int32)) fun m1 =>
  some m1
theorem k_X5_clear {l : Launch} {G : zz_G} (hN : 107 ≤ zz_N G) : ∀ (m : zz_Mem), zz_Con zz_sh l G mX5_clear 0 [.ref (zz_a G 34)] zz_vV zz_mV (f_X5_clear m) m := by
  intro m
  refine zz_con (lv := [(0, .ref (zz_a G 34))]) (by decide +kernel) (Nat.le_of_ble_eq_true rfl) rfl ?_
  unfold f_X5_clear
  refine zs_aload_n dX5_clear_0 rfl 0 rfl ?_
  refine zs_iconst (v := (0 : Int32)) dX5_clear_1 ci_0 ?_
  refine zs_putI fl_X5_18 dX5_clear_2 (sh_34 hN) rfl ⟨rfl, rfl⟩ (fun m1 => ?_)
  exact zs_vret dX5_clear_5 rfl rfl rfl
/-! X5_push: PillarDesk$Past.push(LPillarDesk$Stand;)V -/
theorem dX5_push_0 : decode cX5_push 0 = .ok (.aload_n 0, 1) := by decide +kernel
theorem dX5_push_1 : decode cX5_push 1 = .ok (.getfield 11, 3) := by decide +kernel
theorem dX5_push_4 : decode cX5_push 4 = .ok (.aload_n 0, 1) := by decide +kernel
theorem dX5_push_5 : decode cX5_push 5 = .ok (.getfield 22, 3) := by decide +kernel
theorem dX5_push_8 : decode cX5_push 8 = .ok (.aaload, 1) := by decide +kernel
theorem dX5_push_9 : decode cX5_push 9 = .ok (.aload_n 1, 1) := by decide +kernel
theorem dX5_push_10 : decode cX5_push 10 = .ok (.invokevirtual 25, 3) := by decide +kernel
theorem dX5_push_13 : decode cX5_push 13 = .ok (.aload_n 0, 1) := by decide +kernel
theorem dX5_push_14 : decode cX5_push 14 = .ok (.aload_n 0, 1) := by decide +kernel
theorem dX5_push_15 : decode cX5_push 15 = .ok (.getfield 22, 3) := by decide +kernel
theorem dX5_push_18 : decode cX5_push 18 = .ok (.iconst 1, 1) := by decide +kernel
theorem dX5_push_19 : decode cX5_push 19 = .ok (.iadd, 1) := by decide +kernel
theorem dX5_push_20 : decode cX5_push 20 = .ok (.bipush 10, 2) := by decide +kernel
theorem dX5_push_22 : decode cX5_push 22 = .ok (.irem, 1) := by decide +kernel
theorem dX5_push_23 : decode cX5_push 23 = .ok (.putfield 22, 3) := by decide +kernel
theorem dX5_push_26 : decode cX5_push 26 = .ok (.aload_n 0, 1) := by decide +kernel
theorem dX5_push_27 : decode cX5_push 27 = .ok (.bipush 10, 2) := by decide +kernel
theorem dX5_push_29 : decode cX5_push 29 = .ok (.aload_n 0, 1) := by decide +kernel
theorem dX5_push_30 : decode cX5_push 30 = .ok (.getfield 18, 3) := by decide +kernel
theorem dX5_push_33 : decode cX5_push 33 = .ok (.iconst 1, 1) := by decide +kernel
theorem dX5_push_34 : decode cX5_push 34 = .ok (.iadd, 1) := by decide +kernel
theorem dX5_push_35 : decode cX5_push 35 = .ok (.invokestatic 29, 3) := by decide +kernel
theorem dX5_push_38 : decode cX5_push 38 = .ok (.putfield 18, 3) := by decide +kernel
theorem dX5_push_41 : decode cX5_push 41 = .ok (.return_, 1) := by decide +kernel
def f_X5_push   (m : zz_Mem) : Option zz_Mem :=
  zz_ix (m.1 34 1) 10 <|
  zz_bndR (f_X9_copyFrom (36 + 3 * (m.1 34 1).toNatClampNeg) 66 m) fun m2 =>
  zz_letM (zz_setI m2 34 1 (((m2.1 34 1) + (1 : Int32)) - ((m2.1 34 1) + (1 : Int32)) / (10 : Int32) * (10 : Int32))) fun m3 =>
  zz_bndR (f_J9_min_7cf53 (10 : Int32) ((m3.1 34 2) + (1 : Int32))) fun r4 =>
  zz_letM (zz_setI m3 34 2 r4) fun m5 =>
  some m5
theorem k_X5_push {l : Launch} {G : zz_G} (hN : 107 ≤ zz_N G) : ∀ (m : zz_Mem), zz_Con zz_sh l G mX5_push 2 [.ref (zz_a G 34), .ref (zz_a G 66)] zz_vV zz_mV (f_X5_push m) m := by
  intro m
  refine zz_con (lv := [(0, .ref (zz_a G 34)), (1, .ref (zz_a G 66))]) (by decide +kernel) (Nat.le_of_ble_eq_true rfl) rfl ?_
  unfold f_X5_push
  refine zs_aload_n dX5_push_0 rfl 0 rfl ?_
  refine zs_getR fl_X5_11 dX5_push_1 (sh_34 hN) rfl ?_
  refine zs_aload_n dX5_push_4 rfl 0 rfl ?_
  refine zs_getI fl_X5_22 dX5_push_5 (sh_34 hN) rfl ?_
  refine zs_aaldStand dX5_push_8 (sh_35 hN) (fun h1 => ?_)
  refine zs_aload_n dX5_push_9 rfl 1 rfl ?_
  refine zs_cV_vW (rest := []) (k_X9_copyFrom hN (isStands hN h1) ((isStand_66 hN))  _) dX5_push_10 lv_X5_25 ok_X9_copyFrom (zz_rcv_o (isStands hN h1).1 rfl) (Nat.le_of_ble_eq_true rfl) rfl rfl (Nat.le_of_ble_eq_true rfl) (fun m2 => ?_)
  refine zs_aload_n dX5_push_13 rfl 0 rfl ?_
  refine zs_aload_n dX5_push_14 rfl 0 rfl ?_
  refine zs_getI fl_X5_22 dX5_push_15 (sh_34 hN) rfl ?_
  refine zs_iconst (v := (1 : Int32)) dX5_push_18 ci_1 ?_
  refine zs_iadd dX5_push_19 ?_
  refine zs_bipush (v := (10 : Int32)) dX5_push_20 cb_10 ?_
  refine zs_irem dX5_push_22 (by decide) ?_
  refine zs_putI fl_X5_22 dX5_push_23 (sh_34 hN) rfl ⟨rfl, rfl⟩ (fun m3 => ?_)
  refine zs_aload_n dX5_push_26 rfl 0 rfl ?_
  refine zs_bipush (v := (10 : Int32)) dX5_push_27 cb_10 ?_
  refine zs_aload_n dX5_push_29 rfl 0 rfl ?_
  refine zs_getI fl_X5_18 dX5_push_30 (sh_34 hN) rfl ?_
  refine zs_iconst (v := (1 : Int32)) dX5_push_33 ci_1 ?_
  refine zs_iadd dX5_push_34 ?_
  refine zs_cS_iR (rest := [.ref (zz_a G 34)]) (k_J9_min_7cf53 hN _ _ _) dX5_push_35 ls_X5_29 ok_J9_min_7cf53 (Nat.le_of_ble_eq_true rfl) rfl rfl (Nat.le_of_ble_eq_true rfl) (fun r4 => ?_)
  refine zs_putI fl_X5_18 dX5_push_38 (sh_34 hN) rfl ⟨rfl, rfl⟩ (fun m5 => ?_)
  exact zs_vret dX5_push_41 rfl rfl rfl
/-! X5_back: PillarDesk$Past.back(ILPillarDesk$Stand;)V -/
theorem dX5_back_0 : decode cX5_back 0 = .ok (.aload_n 0, 1) := by decide +kernel
theorem dX5_back_1 : decode cX5_back 1 = .ok (.aload_n 0, 1) := by decide +kernel
theorem dX5_back_2 : decode cX5_back 2 = .ok (.getfield 22, 3) := by decide +kernel
theorem dX5_back_5 : decode cX5_back 5 = .ok (.iload_n 1, 1) := by decide +kernel
theorem dX5_back_6 : decode cX5_back 6 = .ok (.isub, 1) := by decide +kernel
theorem dX5_back_7 : decode cX5_back 7 = .ok (.bipush 10, 2) := by decide +kernel
theorem dX5_back_9 : decode cX5_back 9 = .ok (.invokestatic 35, 3) := by decide +kernel
theorem dX5_back_12 : decode cX5_back 12 = .ok (.putfield 22, 3) := by decide +kernel
theorem dX5_back_15 : decode cX5_back 15 = .ok (.aload_n 0, 1) := by decide +kernel
theorem dX5_back_16 : decode cX5_back 16 = .ok (.iconst 0, 1) := by decide +kernel
theorem dX5_back_17 : decode cX5_back 17 = .ok (.aload_n 0, 1) := by decide +kernel
theorem dX5_back_18 : decode cX5_back 18 = .ok (.getfield 18, 3) := by decide +kernel
theorem dX5_back_21 : decode cX5_back 21 = .ok (.iload_n 1, 1) := by decide +kernel
theorem dX5_back_22 : decode cX5_back 22 = .ok (.isub, 1) := by decide +kernel
theorem dX5_back_23 : decode cX5_back 23 = .ok (.invokestatic 38, 3) := by decide +kernel
theorem dX5_back_26 : decode cX5_back 26 = .ok (.putfield 18, 3) := by decide +kernel
theorem dX5_back_29 : decode cX5_back 29 = .ok (.aload_n 2, 1) := by decide +kernel
theorem dX5_back_30 : decode cX5_back 30 = .ok (.aload_n 0, 1) := by decide +kernel
theorem dX5_back_31 : decode cX5_back 31 = .ok (.getfield 11, 3) := by decide +kernel
theorem dX5_back_34 : decode cX5_back 34 = .ok (.aload_n 0, 1) := by decide +kernel
theorem dX5_back_35 : decode cX5_back 35 = .ok (.getfield 22, 3) := by decide +kernel
theorem dX5_back_38 : decode cX5_back 38 = .ok (.aaload, 1) := by decide +kernel
theorem dX5_back_39 : decode cX5_back 39 = .ok (.invokevirtual 25, 3) := by decide +kernel
theorem dX5_back_42 : decode cX5_back 42 = .ok (.return_, 1) := by decide +kernel
def f_X5_back  (p1 : Int32) (m : zz_Mem) : Option zz_Mem :=
  zz_bndR (f_J9_floorMod_7cf53 ((m.1 34 1) - p1) (10 : Int32)) fun r1 =>
  zz_letM (zz_setI m 34 1 r1) fun m2 =>
  zz_bndR (f_J9_max_7cf53 (0 : Int32) ((m2.1 34 2) - p1)) fun r3 =>
  zz_letM (zz_setI m2 34 2 r3) fun m4 =>
  zz_ix (m4.1 34 1) 10 <|
  zz_bndR (f_X9_copyFrom 13 (36 + 3 * (m4.1 34 1).toNatClampNeg) m4) fun m6 =>
  some m6
theorem k_X5_back {l : Launch} {G : zz_G} (hN : 107 ≤ zz_N G) : ∀ (p1 : Int32) (m : zz_Mem), zz_Con zz_sh l G mX5_back 2 [.ref (zz_a G 34), .int p1, .ref (zz_a G 13)] zz_vV zz_mV (f_X5_back p1 m) m := by
  intro p1 m
  refine zz_con (lv := [(0, .ref (zz_a G 34)), (1, .int p1), (2, .ref (zz_a G 13))]) (by decide +kernel) (Nat.le_of_ble_eq_true rfl) rfl ?_
  unfold f_X5_back
  refine zs_aload_n dX5_back_0 rfl 0 rfl ?_
  refine zs_aload_n dX5_back_1 rfl 0 rfl ?_
  refine zs_getI fl_X5_22 dX5_back_2 (sh_34 hN) rfl ?_
  refine zs_iload_n dX5_back_5 rfl 1 rfl ?_
  refine zs_isub dX5_back_6 ?_
  refine zs_bipush (v := (10 : Int32)) dX5_back_7 cb_10 ?_
  refine zs_cS_iR (rest := [.ref (zz_a G 34)]) (k_J9_floorMod_7cf53 hN _ _ _) dX5_back_9 ls_X5_35 ok_J9_floorMod_7cf53 (Nat.le_of_ble_eq_true rfl) rfl rfl (Nat.le_of_ble_eq_true rfl) (fun r1 => ?_)
  refine zs_putI fl_X5_22 dX5_back_12 (sh_34 hN) rfl ⟨rfl, rfl⟩ (fun m2 => ?_)
  refine zs_aload_n dX5_back_15 rfl 0 rfl ?_
  refine zs_iconst (v := (0 : Int32)) dX5_back_16 ci_0 ?_
  refine zs_aload_n dX5_back_17 rfl 0 rfl ?_
  refine zs_getI fl_X5_18 dX5_back_18 (sh_34 hN) rfl ?_
  refine zs_iload_n dX5_back_21 rfl 1 rfl ?_
  refine zs_isub dX5_back_22 ?_
  refine zs_cS_iR (rest := [.ref (zz_a G 34)]) (k_J9_max_7cf53 hN _ _ _) dX5_back_23 ls_X5_38 ok_J9_max_7cf53 (Nat.le_of_ble_eq_true rfl) rfl rfl (Nat.le_of_ble_eq_true rfl) (fun r3 => ?_)
  refine zs_putI fl_X5_18 dX5_back_26 (sh_34 hN) rfl ⟨rfl, rfl⟩ (fun m4 => ?_)
  refine zs_aload_n dX5_back_29 rfl 2 rfl ?_
  refine zs_aload_n dX5_back_30 rfl 0 rfl ?_
  refine zs_getR fl_X5_11 dX5_back_31 (sh_34 hN) rfl ?_
  refine zs_aload_n dX5_back_34 rfl 0 rfl ?_
  refine zs_getI fl_X5_22 dX5_back_35 (sh_34 hN) rfl ?_
  refine zs_aaldStand dX5_back_38 (sh_35 hN) (fun h5 => ?_)
  refine zs_cV_vW (rest := []) (k_X9_copyFrom hN ((isStand_13 hN)) (isStands hN h5)  _) dX5_back_39 lv_X5_25 ok_X9_copyFrom (zz_rcv_o (sh_13 hN) rfl) (Nat.le_of_ble_eq_true rfl) rfl rfl (Nat.le_of_ble_eq_true rfl) (fun m6 => ?_)
  exact zs_vret dX5_back_42 rfl rfl rfl
/-! X6_clear: PillarDesk$Plan.clear()V -/
theorem dX6_clear_0 : decode cX6_clear 0 = .ok (.aload_n 0, 1) := by decide +kernel
theorem dX6_clear_1 : decode cX6_clear 1 = .ok (.iconst 0, 1) := by decide +kernel
theorem dX6_clear_2 : decode cX6_clear 2 = .ok (.putfield 44, 3) := by decide +kernel
theorem dX6_clear_5 : decode cX6_clear 5 = .ok (.aload_n 0, 1) := by decide +kernel
theorem dX6_clear_6 : decode cX6_clear 6 = .ok (.iconst 0, 1) := by decide +kernel
theorem dX6_clear_7 : decode cX6_clear 7 = .ok (.putfield 48, 3) := by decide +kernel
theorem dX6_clear_10 : decode cX6_clear 10 = .ok (.aload_n 0, 1) := by decide +kernel
theorem dX6_clear_11 : decode cX6_clear 11 = .ok (.iconst 0, 1) := by decide +kernel
theorem dX6_clear_12 : decode cX6_clear 12 = .ok (.putfield 51, 3) := by decide +kernel
theorem dX6_clear_15 : decode cX6_clear 15 = .ok (.aload_n 0, 1) := by decide +kernel
theorem dX6_clear_16 : decode cX6_clear 16 = .ok (.iconst 0, 1) := by decide +kernel
theorem dX6_clear_17 : decode cX6_clear 17 = .ok (.putfield 54, 3) := by decide +kernel
theorem dX6_clear_20 : decode cX6_clear 20 = .ok (.aload_n 0, 1) := by decide +kernel
theorem dX6_clear_21 : decode cX6_clear 21 = .ok (.iconst 0, 1) := by decide +kernel
theorem dX6_clear_22 : decode cX6_clear 22 = .ok (.putfield 57, 3) := by decide +kernel
theorem dX6_clear_25 : decode cX6_clear 25 = .ok (.aload_n 0, 1) := by decide +kernel
theorem dX6_clear_26 : decode cX6_clear 26 = .ok (.iconst 0, 1) := by decide +kernel
theorem dX6_clear_27 : decode cX6_clear 27 = .ok (.putfield 60, 3) := by decide +kernel
theorem dX6_clear_30 : decode cX6_clear 30 = .ok (.aload_n 0, 1) := by decide +kernel
theorem dX6_clear_31 : decode cX6_clear 31 = .ok (.getfield 33, 3) := by decide +kernel
theorem dX6_clear_34 : decode cX6_clear 34 = .ok (.invokevirtual 63, 3) := by decide +kernel
theorem dX6_clear_37 : decode cX6_clear 37 = .ok (.return_, 1) := by decide +kernel
def f_X6_clear   (m : zz_Mem) : Option zz_Mem :=
  zz_letM (zz_setI m 16 0 (0 : Int32)) fun m1 =>
  zz_letM (zz_setI m1 16 1 (0 : Int32)) fun m2 =>
  zz_letM (zz_setI m2 16 2 (0 : Int32)) fun m3 =>
  zz_letM (zz_setI m3 16 3 (0 : Int32)) fun m4 =>
  zz_letM (zz_setI m4 16 5 (0 : Int32)) fun m5 =>
  zz_letM (zz_setI m5 16 10 (0 : Int32)) fun m6 =>
  zz_bndR (f_X3_clear m6) fun m7 =>
  some m7
theorem k_X6_clear {l : Launch} {G : zz_G} (hN : 107 ≤ zz_N G) : ∀ (m : zz_Mem), zz_Con zz_sh l G mX6_clear 1 [.ref (zz_a G 16)] zz_vV zz_mV (f_X6_clear m) m := by
  intro m
  refine zz_con (lv := [(0, .ref (zz_a G 16))]) (by decide +kernel) (Nat.le_of_ble_eq_true rfl) rfl ?_
  unfold f_X6_clear
  refine zs_aload_n dX6_clear_0 rfl 0 rfl ?_
  refine zs_iconst (v := (0 : Int32)) dX6_clear_1 ci_0 ?_
  refine zs_putI fl_X6_44 dX6_clear_2 (sh_16 hN) rfl ⟨rfl, rfl⟩ (fun m1 => ?_)
  refine zs_aload_n dX6_clear_5 rfl 0 rfl ?_
  refine zs_iconst (v := (0 : Int32)) dX6_clear_6 ci_0 ?_
  refine zs_putI fl_X6_48 dX6_clear_7 (sh_16 hN) rfl ⟨rfl, rfl⟩ (fun m2 => ?_)
  refine zs_aload_n dX6_clear_10 rfl 0 rfl ?_
  refine zs_iconst (v := (0 : Int32)) dX6_clear_11 ci_0 ?_
  refine zs_putI fl_X6_51 dX6_clear_12 (sh_16 hN) rfl ⟨rfl, rfl⟩ (fun m3 => ?_)
  refine zs_aload_n dX6_clear_15 rfl 0 rfl ?_
  refine zs_iconst (v := (0 : Int32)) dX6_clear_16 ci_0 ?_
  refine zs_putI fl_X6_54 dX6_clear_17 (sh_16 hN) rfl ⟨rfl, rfl⟩ (fun m4 => ?_)
  refine zs_aload_n dX6_clear_20 rfl 0 rfl ?_
  refine zs_iconst (v := (0 : Int32)) dX6_clear_21 ci_0 ?_
  refine zs_putI fl_X6_57 dX6_clear_22 (sh_16 hN) rfl ⟨rfl, rfl⟩ (fun m5 => ?_)
  refine zs_aload_n dX6_clear_25 rfl 0 rfl ?_
  refine zs_iconst (v := (0 : Int32)) dX6_clear_26 ci_0 ?_
  refine zs_putI fl_X6_60 dX6_clear_27 (sh_16 hN) rfl ⟨rfl, rfl⟩ (fun m6 => ?_)
  refine zs_aload_n dX6_clear_30 rfl 0 rfl ?_
  refine zs_getR fl_X6_33 dX6_clear_31 (sh_16 hN) rfl ?_
  refine zs_cV_vW (rest := []) (k_X3_clear hN  _) dX6_clear_34 lv_X6_63 ok_X3_clear (zz_rcv_o (sh_23 hN) rfl) (Nat.le_of_ble_eq_true rfl) rfl rfl (Nat.le_of_ble_eq_true rfl) (fun m7 => ?_)
  exact zs_vret dX6_clear_37 rfl rfl rfl
/-! X6_copyFrom: PillarDesk$Plan.copyFrom(LPillarDesk$Plan;)V -/
theorem dX6_copyFrom_0 : decode cX6_copyFrom 0 = .ok (.aload_n 0, 1) := by decide +kernel
theorem dX6_copyFrom_1 : decode cX6_copyFrom 1 = .ok (.aload_n 1, 1) := by decide +kernel
theorem dX6_copyFrom_2 : decode cX6_copyFrom 2 = .ok (.getfield 44, 3) := by decide +kernel
theorem dX6_copyFrom_5 : decode cX6_copyFrom 5 = .ok (.putfield 44, 3) := by decide +kernel
theorem dX6_copyFrom_8 : decode cX6_copyFrom 8 = .ok (.aload_n 0, 1) := by decide +kernel
theorem dX6_copyFrom_9 : decode cX6_copyFrom 9 = .ok (.aload_n 1, 1) := by decide +kernel
theorem dX6_copyFrom_10 : decode cX6_copyFrom 10 = .ok (.getfield 48, 3) := by decide +kernel
theorem dX6_copyFrom_13 : decode cX6_copyFrom 13 = .ok (.putfield 48, 3) := by decide +kernel
theorem dX6_copyFrom_16 : decode cX6_copyFrom 16 = .ok (.aload_n 0, 1) := by decide +kernel
theorem dX6_copyFrom_17 : decode cX6_copyFrom 17 = .ok (.aload_n 1, 1) := by decide +kernel
theorem dX6_copyFrom_18 : decode cX6_copyFrom 18 = .ok (.getfield 51, 3) := by decide +kernel
theorem dX6_copyFrom_21 : decode cX6_copyFrom 21 = .ok (.putfield 51, 3) := by decide +kernel
theorem dX6_copyFrom_24 : decode cX6_copyFrom 24 = .ok (.aload_n 0, 1) := by decide +kernel
theorem dX6_copyFrom_25 : decode cX6_copyFrom 25 = .ok (.aload_n 1, 1) := by decide +kernel
theorem dX6_copyFrom_26 : decode cX6_copyFrom 26 = .ok (.getfield 54, 3) := by decide +kernel
theorem dX6_copyFrom_29 : decode cX6_copyFrom 29 = .ok (.putfield 54, 3) := by decide +kernel
theorem dX6_copyFrom_32 : decode cX6_copyFrom 32 = .ok (.aload_n 1, 1) := by decide +kernel
theorem dX6_copyFrom_33 : decode cX6_copyFrom 33 = .ok (.getfield 9, 3) := by decide +kernel
theorem dX6_copyFrom_36 : decode cX6_copyFrom 36 = .ok (.iconst 0, 1) := by decide +kernel
theorem dX6_copyFrom_37 : decode cX6_copyFrom 37 = .ok (.aload_n 0, 1) := by decide +kernel
theorem dX6_copyFrom_38 : decode cX6_copyFrom 38 = .ok (.getfield 9, 3) := by decide +kernel
theorem dX6_copyFrom_41 : decode cX6_copyFrom 41 = .ok (.iconst 0, 1) := by decide +kernel
theorem dX6_copyFrom_42 : decode cX6_copyFrom 42 = .ok (.aload_n 0, 1) := by decide +kernel
theorem dX6_copyFrom_43 : decode cX6_copyFrom 43 = .ok (.getfield 9, 3) := by decide +kernel
theorem dX6_copyFrom_46 : decode cX6_copyFrom 46 = .ok (.arraylength, 1) := by decide +kernel
theorem dX6_copyFrom_47 : decode cX6_copyFrom 47 = .ok (.invokestatic 66, 3) := by decide +kernel
theorem dX6_copyFrom_50 : decode cX6_copyFrom 50 = .ok (.aload_n 0, 1) := by decide +kernel
theorem dX6_copyFrom_51 : decode cX6_copyFrom 51 = .ok (.aload_n 1, 1) := by decide +kernel
theorem dX6_copyFrom_52 : decode cX6_copyFrom 52 = .ok (.getfield 57, 3) := by decide +kernel
theorem dX6_copyFrom_55 : decode cX6_copyFrom 55 = .ok (.putfield 57, 3) := by decide +kernel
theorem dX6_copyFrom_58 : decode cX6_copyFrom 58 = .ok (.aload_n 1, 1) := by decide +kernel
theorem dX6_copyFrom_59 : decode cX6_copyFrom 59 = .ok (.getfield 15, 3) := by decide +kernel
theorem dX6_copyFrom_62 : decode cX6_copyFrom 62 = .ok (.iconst 0, 1) := by decide +kernel
theorem dX6_copyFrom_63 : decode cX6_copyFrom 63 = .ok (.aload_n 0, 1) := by decide +kernel
theorem dX6_copyFrom_64 : decode cX6_copyFrom 64 = .ok (.getfield 15, 3) := by decide +kernel
theorem dX6_copyFrom_67 : decode cX6_copyFrom 67 = .ok (.iconst 0, 1) := by decide +kernel
theorem dX6_copyFrom_68 : decode cX6_copyFrom 68 = .ok (.aload_n 0, 1) := by decide +kernel
theorem dX6_copyFrom_69 : decode cX6_copyFrom 69 = .ok (.getfield 15, 3) := by decide +kernel
theorem dX6_copyFrom_72 : decode cX6_copyFrom 72 = .ok (.arraylength, 1) := by decide +kernel
theorem dX6_copyFrom_73 : decode cX6_copyFrom 73 = .ok (.invokestatic 66, 3) := by decide +kernel
theorem dX6_copyFrom_76 : decode cX6_copyFrom 76 = .ok (.aload_n 1, 1) := by decide +kernel
theorem dX6_copyFrom_77 : decode cX6_copyFrom 77 = .ok (.getfield 18, 3) := by decide +kernel
theorem dX6_copyFrom_80 : decode cX6_copyFrom 80 = .ok (.iconst 0, 1) := by decide +kernel
theorem dX6_copyFrom_81 : decode cX6_copyFrom 81 = .ok (.aload_n 0, 1) := by decide +kernel
theorem dX6_copyFrom_82 : decode cX6_copyFrom 82 = .ok (.getfield 18, 3) := by decide +kernel
theorem dX6_copyFrom_85 : decode cX6_copyFrom 85 = .ok (.iconst 0, 1) := by decide +kernel
theorem dX6_copyFrom_86 : decode cX6_copyFrom 86 = .ok (.aload_n 0, 1) := by decide +kernel
theorem dX6_copyFrom_87 : decode cX6_copyFrom 87 = .ok (.getfield 18, 3) := by decide +kernel
theorem dX6_copyFrom_90 : decode cX6_copyFrom 90 = .ok (.arraylength, 1) := by decide +kernel
theorem dX6_copyFrom_91 : decode cX6_copyFrom 91 = .ok (.invokestatic 66, 3) := by decide +kernel
theorem dX6_copyFrom_94 : decode cX6_copyFrom 94 = .ok (.aload_n 1, 1) := by decide +kernel
theorem dX6_copyFrom_95 : decode cX6_copyFrom 95 = .ok (.getfield 21, 3) := by decide +kernel
theorem dX6_copyFrom_98 : decode cX6_copyFrom 98 = .ok (.iconst 0, 1) := by decide +kernel
theorem dX6_copyFrom_99 : decode cX6_copyFrom 99 = .ok (.aload_n 0, 1) := by decide +kernel
theorem dX6_copyFrom_100 : decode cX6_copyFrom 100 = .ok (.getfield 21, 3) := by decide +kernel
theorem dX6_copyFrom_103 : decode cX6_copyFrom 103 = .ok (.iconst 0, 1) := by decide +kernel
theorem dX6_copyFrom_104 : decode cX6_copyFrom 104 = .ok (.aload_n 0, 1) := by decide +kernel
theorem dX6_copyFrom_105 : decode cX6_copyFrom 105 = .ok (.getfield 21, 3) := by decide +kernel
theorem dX6_copyFrom_108 : decode cX6_copyFrom 108 = .ok (.arraylength, 1) := by decide +kernel
theorem dX6_copyFrom_109 : decode cX6_copyFrom 109 = .ok (.invokestatic 66, 3) := by decide +kernel
theorem dX6_copyFrom_112 : decode cX6_copyFrom 112 = .ok (.aload_n 1, 1) := by decide +kernel
theorem dX6_copyFrom_113 : decode cX6_copyFrom 113 = .ok (.getfield 24, 3) := by decide +kernel
theorem dX6_copyFrom_116 : decode cX6_copyFrom 116 = .ok (.iconst 0, 1) := by decide +kernel
theorem dX6_copyFrom_117 : decode cX6_copyFrom 117 = .ok (.aload_n 0, 1) := by decide +kernel
theorem dX6_copyFrom_118 : decode cX6_copyFrom 118 = .ok (.getfield 24, 3) := by decide +kernel
theorem dX6_copyFrom_121 : decode cX6_copyFrom 121 = .ok (.iconst 0, 1) := by decide +kernel
theorem dX6_copyFrom_122 : decode cX6_copyFrom 122 = .ok (.aload_n 0, 1) := by decide +kernel
theorem dX6_copyFrom_123 : decode cX6_copyFrom 123 = .ok (.getfield 24, 3) := by decide +kernel
theorem dX6_copyFrom_126 : decode cX6_copyFrom 126 = .ok (.arraylength, 1) := by decide +kernel
theorem dX6_copyFrom_127 : decode cX6_copyFrom 127 = .ok (.invokestatic 66, 3) := by decide +kernel
theorem dX6_copyFrom_130 : decode cX6_copyFrom 130 = .ok (.aload_n 0, 1) := by decide +kernel
theorem dX6_copyFrom_131 : decode cX6_copyFrom 131 = .ok (.aload_n 1, 1) := by decide +kernel
theorem dX6_copyFrom_132 : decode cX6_copyFrom 132 = .ok (.getfield 60, 3) := by decide +kernel
theorem dX6_copyFrom_135 : decode cX6_copyFrom 135 = .ok (.putfield 60, 3) := by decide +kernel
theorem dX6_copyFrom_138 : decode cX6_copyFrom 138 = .ok (.aload_n 1, 1) := by decide +kernel
theorem dX6_copyFrom_139 : decode cX6_copyFrom 139 = .ok (.getfield 27, 3) := by decide +kernel
theorem dX6_copyFrom_142 : decode cX6_copyFrom 142 = .ok (.iconst 0, 1) := by decide +kernel
theorem dX6_copyFrom_143 : decode cX6_copyFrom 143 = .ok (.aload_n 0, 1) := by decide +kernel
theorem dX6_copyFrom_144 : decode cX6_copyFrom 144 = .ok (.getfield 27, 3) := by decide +kernel
theorem dX6_copyFrom_147 : decode cX6_copyFrom 147 = .ok (.iconst 0, 1) := by decide +kernel
theorem dX6_copyFrom_148 : decode cX6_copyFrom 148 = .ok (.aload_n 0, 1) := by decide +kernel
theorem dX6_copyFrom_149 : decode cX6_copyFrom 149 = .ok (.getfield 27, 3) := by decide +kernel
theorem dX6_copyFrom_152 : decode cX6_copyFrom 152 = .ok (.arraylength, 1) := by decide +kernel
theorem dX6_copyFrom_153 : decode cX6_copyFrom 153 = .ok (.invokestatic 66, 3) := by decide +kernel
theorem dX6_copyFrom_156 : decode cX6_copyFrom 156 = .ok (.aload_n 0, 1) := by decide +kernel
theorem dX6_copyFrom_157 : decode cX6_copyFrom 157 = .ok (.getfield 33, 3) := by decide +kernel
theorem dX6_copyFrom_160 : decode cX6_copyFrom 160 = .ok (.aload_n 1, 1) := by decide +kernel
theorem dX6_copyFrom_161 : decode cX6_copyFrom 161 = .ok (.getfield 33, 3) := by decide +kernel
theorem dX6_copyFrom_164 : decode cX6_copyFrom 164 = .ok (.invokevirtual 72, 3) := by decide +kernel
theorem dX6_copyFrom_167 : decode cX6_copyFrom 167 = .ok (.aload_n 0, 1) := by decide +kernel
theorem dX6_copyFrom_168 : decode cX6_copyFrom 168 = .ok (.getfield 40, 3) := by decide +kernel
theorem dX6_copyFrom_171 : decode cX6_copyFrom 171 = .ok (.aload_n 1, 1) := by decide +kernel
theorem dX6_copyFrom_172 : decode cX6_copyFrom 172 = .ok (.getfield 40, 3) := by decide +kernel
theorem dX6_copyFrom_175 : decode cX6_copyFrom 175 = .ok (.invokevirtual 76, 3) := by decide +kernel
theorem dX6_copyFrom_178 : decode cX6_copyFrom 178 = .ok (.return_, 1) := by decide +kernel
def f_X6_copyFrom (o : Nat) (o0 : Nat)  (m : zz_Mem) : Option zz_Mem :=
  zz_letM (zz_setI m o 0 (m.1 o0 0)) fun m1 =>
  zz_letM (zz_setI m1 o 1 (m1.1 o0 1)) fun m2 =>
  zz_letM (zz_setI m2 o 2 (m2.1 o0 2)) fun m3 =>
  zz_letM (zz_setI m3 o 3 (m3.1 o0 3)) fun m4 =>
  zz_letM (zz_rowI m4 (o + 1) (va_cpy (m4.1 (o0 + 1)) (m4.1 (o + 1)) 0 0 12)) fun m5 =>
  zz_letM (zz_setI m5 o 5 (m5.1 o0 5)) fun m6 =>
  zz_letM (zz_rowI m6 (o + 2) (va_cpy (m6.1 (o0 + 2)) (m6.1 (o + 2)) 0 0 8)) fun m7 =>
  zz_letM (zz_rowI m7 (o + 3) (va_cpy (m7.1 (o0 + 3)) (m7.1 (o + 3)) 0 0 8)) fun m8 =>
  zz_letM (zz_rowI m8 (o + 4) (va_cpy (m8.1 (o0 + 4)) (m8.1 (o + 4)) 0 0 8)) fun m9 =>
  zz_letM (zz_rowI m9 (o + 5) (va_cpy (m9.1 (o0 + 5)) (m9.1 (o + 5)) 0 0 8)) fun m10 =>
  zz_letM (zz_setI m10 o 10 (m10.1 o0 10)) fun m11 =>
  zz_letM (zz_rowI m11 (o + 6) (va_cpy (m11.1 (o0 + 6)) (m11.1 (o + 6)) 0 0 10)) fun m12 =>
  zz_bndR (f_X3_copyFrom (o + 7) (o0 + 7) m12) fun m13 =>
  zz_bndR (f_X9_copyFrom (o + 11) (o0 + 11) m13) fun m14 =>
  some m14
theorem k_X6_copyFrom {l : Launch} {G : zz_G} (hN : 107 ≤ zz_N G) {o : Nat} {o0 : Nat} (ho : zz_isPlan G o) (ho0 : zz_isPlan G o0) : ∀ (m : zz_Mem), zz_Con zz_sh l G mX6_copyFrom 2 [.ref (zz_a G o), .ref (zz_a G o0)] zz_vV zz_mV (f_X6_copyFrom o o0 m) m := by
  intro m
  refine zz_con (lv := [(0, .ref (zz_a G o)), (1, .ref (zz_a G o0))]) (by decide +kernel) (Nat.le_of_ble_eq_true rfl) rfl ?_
  unfold f_X6_copyFrom
  refine zs_aload_n dX6_copyFrom_0 rfl 0 rfl ?_
  refine zs_aload_n dX6_copyFrom_1 rfl 1 rfl ?_
  refine zs_getI fl_X6_44 dX6_copyFrom_2 (ho0).1 rfl ?_
  refine zs_putI fl_X6_44 dX6_copyFrom_5 (ho).1 rfl ⟨rfl, rfl⟩ (fun m1 => ?_)
  refine zs_aload_n dX6_copyFrom_8 rfl 0 rfl ?_
  refine zs_aload_n dX6_copyFrom_9 rfl 1 rfl ?_
  refine zs_getI fl_X6_48 dX6_copyFrom_10 (ho0).1 rfl ?_
  refine zs_putI fl_X6_48 dX6_copyFrom_13 (ho).1 rfl ⟨rfl, rfl⟩ (fun m2 => ?_)
  refine zs_aload_n dX6_copyFrom_16 rfl 0 rfl ?_
  refine zs_aload_n dX6_copyFrom_17 rfl 1 rfl ?_
  refine zs_getI fl_X6_51 dX6_copyFrom_18 (ho0).1 rfl ?_
  refine zs_putI fl_X6_51 dX6_copyFrom_21 (ho).1 rfl ⟨rfl, rfl⟩ (fun m3 => ?_)
  refine zs_aload_n dX6_copyFrom_24 rfl 0 rfl ?_
  refine zs_aload_n dX6_copyFrom_25 rfl 1 rfl ?_
  refine zs_getI fl_X6_54 dX6_copyFrom_26 (ho0).1 rfl ?_
  refine zs_putI fl_X6_54 dX6_copyFrom_29 (ho).1 rfl ⟨rfl, rfl⟩ (fun m4 => ?_)
  refine zs_aload_n dX6_copyFrom_32 rfl 1 rfl ?_
  refine zs_getR fl_X6_9 dX6_copyFrom_33 (ho0).1 rfl ?_
  refine zs_iconst (v := (0 : Int32)) dX6_copyFrom_36 ci_0 ?_
  refine zs_aload_n dX6_copyFrom_37 rfl 0 rfl ?_
  refine zs_getR fl_X6_9 dX6_copyFrom_38 (ho).1 rfl ?_
  refine zs_iconst (v := (0 : Int32)) dX6_copyFrom_41 ci_0 ?_
  refine zs_aload_n dX6_copyFrom_42 rfl 0 rfl ?_
  refine zs_getR fl_X6_9 dX6_copyFrom_43 (ho).1 rfl ?_
  refine zs_alen0 (v := (12 : Int32)) dX6_copyFrom_46 (ho).2.1 al_12 ?_
  refine zs_acopy dX6_copyFrom_47 ac_X6_66 (ho0).2.1 (ho).2.1 clp_12 (by decide) (Nat.le_of_ble_eq_true rfl) (Nat.le_of_ble_eq_true rfl) (fun m5 => ?_)
  refine zs_aload_n dX6_copyFrom_50 rfl 0 rfl ?_
  refine zs_aload_n dX6_copyFrom_51 rfl 1 rfl ?_
  refine zs_getI fl_X6_57 dX6_copyFrom_52 (ho0).1 rfl ?_
  refine zs_putI fl_X6_57 dX6_copyFrom_55 (ho).1 rfl ⟨rfl, rfl⟩ (fun m6 => ?_)
  refine zs_aload_n dX6_copyFrom_58 rfl 1 rfl ?_
  refine zs_getR fl_X6_15 dX6_copyFrom_59 (ho0).1 rfl ?_
  refine zs_iconst (v := (0 : Int32)) dX6_copyFrom_62 ci_0 ?_
  refine zs_aload_n dX6_copyFrom_63 rfl 0 rfl ?_
  refine zs_getR fl_X6_15 dX6_copyFrom_64 (ho).1 rfl ?_
  refine zs_iconst (v := (0 : Int32)) dX6_copyFrom_67 ci_0 ?_
  refine zs_aload_n dX6_copyFrom_68 rfl 0 rfl ?_
  refine zs_getR fl_X6_15 dX6_copyFrom_69 (ho).1 rfl ?_
  refine zs_alen0 (v := (8 : Int32)) dX6_copyFrom_72 (ho).2.2.1 al_8 ?_
  refine zs_acopy dX6_copyFrom_73 ac_X6_66 (ho0).2.2.1 (ho).2.2.1 clp_8 (by decide) (Nat.le_of_ble_eq_true rfl) (Nat.le_of_ble_eq_true rfl) (fun m7 => ?_)
  refine zs_aload_n dX6_copyFrom_76 rfl 1 rfl ?_
  refine zs_getR fl_X6_18 dX6_copyFrom_77 (ho0).1 rfl ?_
  refine zs_iconst (v := (0 : Int32)) dX6_copyFrom_80 ci_0 ?_
  refine zs_aload_n dX6_copyFrom_81 rfl 0 rfl ?_
  refine zs_getR fl_X6_18 dX6_copyFrom_82 (ho).1 rfl ?_
  refine zs_iconst (v := (0 : Int32)) dX6_copyFrom_85 ci_0 ?_
  refine zs_aload_n dX6_copyFrom_86 rfl 0 rfl ?_
  refine zs_getR fl_X6_18 dX6_copyFrom_87 (ho).1 rfl ?_
  refine zs_alen0 (v := (8 : Int32)) dX6_copyFrom_90 (ho).2.2.2.1 al_8 ?_
  refine zs_acopy dX6_copyFrom_91 ac_X6_66 (ho0).2.2.2.1 (ho).2.2.2.1 clp_8 (by decide) (Nat.le_of_ble_eq_true rfl) (Nat.le_of_ble_eq_true rfl) (fun m8 => ?_)
  refine zs_aload_n dX6_copyFrom_94 rfl 1 rfl ?_
  refine zs_getR fl_X6_21 dX6_copyFrom_95 (ho0).1 rfl ?_
  refine zs_iconst (v := (0 : Int32)) dX6_copyFrom_98 ci_0 ?_
  refine zs_aload_n dX6_copyFrom_99 rfl 0 rfl ?_
  refine zs_getR fl_X6_21 dX6_copyFrom_100 (ho).1 rfl ?_
  refine zs_iconst (v := (0 : Int32)) dX6_copyFrom_103 ci_0 ?_
  refine zs_aload_n dX6_copyFrom_104 rfl 0 rfl ?_
  refine zs_getR fl_X6_21 dX6_copyFrom_105 (ho).1 rfl ?_
  refine zs_alen0 (v := (8 : Int32)) dX6_copyFrom_108 (ho).2.2.2.2.1 al_8 ?_
  refine zs_acopy dX6_copyFrom_109 ac_X6_66 (ho0).2.2.2.2.1 (ho).2.2.2.2.1 clp_8 (by decide) (Nat.le_of_ble_eq_true rfl) (Nat.le_of_ble_eq_true rfl) (fun m9 => ?_)
  refine zs_aload_n dX6_copyFrom_112 rfl 1 rfl ?_
  refine zs_getR fl_X6_24 dX6_copyFrom_113 (ho0).1 rfl ?_
  refine zs_iconst (v := (0 : Int32)) dX6_copyFrom_116 ci_0 ?_
  refine zs_aload_n dX6_copyFrom_117 rfl 0 rfl ?_
  refine zs_getR fl_X6_24 dX6_copyFrom_118 (ho).1 rfl ?_
  refine zs_iconst (v := (0 : Int32)) dX6_copyFrom_121 ci_0 ?_
  refine zs_aload_n dX6_copyFrom_122 rfl 0 rfl ?_
  refine zs_getR fl_X6_24 dX6_copyFrom_123 (ho).1 rfl ?_
  refine zs_alen0 (v := (8 : Int32)) dX6_copyFrom_126 (ho).2.2.2.2.2.1 al_8 ?_
  refine zs_acopy dX6_copyFrom_127 ac_X6_66 (ho0).2.2.2.2.2.1 (ho).2.2.2.2.2.1 clp_8 (by decide) (Nat.le_of_ble_eq_true rfl) (Nat.le_of_ble_eq_true rfl) (fun m10 => ?_)
  refine zs_aload_n dX6_copyFrom_130 rfl 0 rfl ?_
  refine zs_aload_n dX6_copyFrom_131 rfl 1 rfl ?_
  refine zs_getI fl_X6_60 dX6_copyFrom_132 (ho0).1 rfl ?_
  refine zs_putI fl_X6_60 dX6_copyFrom_135 (ho).1 rfl ⟨rfl, rfl⟩ (fun m11 => ?_)
  refine zs_aload_n dX6_copyFrom_138 rfl 1 rfl ?_
  refine zs_getR fl_X6_27 dX6_copyFrom_139 (ho0).1 rfl ?_
  refine zs_iconst (v := (0 : Int32)) dX6_copyFrom_142 ci_0 ?_
  refine zs_aload_n dX6_copyFrom_143 rfl 0 rfl ?_
  refine zs_getR fl_X6_27 dX6_copyFrom_144 (ho).1 rfl ?_
  refine zs_iconst (v := (0 : Int32)) dX6_copyFrom_147 ci_0 ?_
  refine zs_aload_n dX6_copyFrom_148 rfl 0 rfl ?_
  refine zs_getR fl_X6_27 dX6_copyFrom_149 (ho).1 rfl ?_
  refine zs_alen0 (v := (10 : Int32)) dX6_copyFrom_152 (ho).2.2.2.2.2.2.1 al_10 ?_
  refine zs_acopy dX6_copyFrom_153 ac_X6_66 (ho0).2.2.2.2.2.2.1 (ho).2.2.2.2.2.2.1 clp_10 (by decide) (Nat.le_of_ble_eq_true rfl) (Nat.le_of_ble_eq_true rfl) (fun m12 => ?_)
  refine zs_aload_n dX6_copyFrom_156 rfl 0 rfl ?_
  refine zs_getR fl_X6_33 dX6_copyFrom_157 (ho).1 rfl ?_
  refine zs_aload_n dX6_copyFrom_160 rfl 1 rfl ?_
  refine zs_getR fl_X6_33 dX6_copyFrom_161 (ho0).1 rfl ?_
  refine zs_cV_vW (rest := []) (k_X3_copyFrom hN ((ho).2.2.2.2.2.2.2.1) ((ho0).2.2.2.2.2.2.2.1)  _) dX6_copyFrom_164 lv_X6_72 ok_X3_copyFrom (zz_rcv_o ((ho).2.2.2.2.2.2.2.1).1 rfl) (Nat.le_of_ble_eq_true rfl) rfl rfl (Nat.le_of_ble_eq_true rfl) (fun m13 => ?_)
  refine zs_aload_n dX6_copyFrom_167 rfl 0 rfl ?_
  refine zs_getR fl_X6_40 dX6_copyFrom_168 (ho).1 rfl ?_
  refine zs_aload_n dX6_copyFrom_171 rfl 1 rfl ?_
  refine zs_getR fl_X6_40 dX6_copyFrom_172 (ho0).1 rfl ?_
  refine zs_cV_vW (rest := []) (k_X9_copyFrom hN ((ho).2.2.2.2.2.2.2.2) ((ho0).2.2.2.2.2.2.2.2)  _) dX6_copyFrom_175 lv_X6_76 ok_X9_copyFrom (zz_rcv_o ((ho).2.2.2.2.2.2.2.2).1 rfl) (Nat.le_of_ble_eq_true rfl) rfl rfl (Nat.le_of_ble_eq_true rfl) (fun m14 => ?_)
  exact zs_vret dX6_copyFrom_178 rfl rfl rfl
/-! X6_hasInput: PillarDesk$Plan.hasInput(I)Z -/
theorem dX6_hasInput_0 : decode cX6_hasInput 0 = .ok (.iload_n 1, 1) := by decide +kernel
theorem dX6_hasInput_1 : decode cX6_hasInput 1 = .ok (.ifCond .lt 21, 3) := by decide +kernel
theorem dX6_hasInput_4 : decode cX6_hasInput 4 = .ok (.iload_n 1, 1) := by decide +kernel
theorem dX6_hasInput_5 : decode cX6_hasInput 5 = .ok (.aload_n 0, 1) := by decide +kernel
theorem dX6_hasInput_6 : decode cX6_hasInput 6 = .ok (.getfield 57, 3) := by decide +kernel
theorem dX6_hasInput_9 : decode cX6_hasInput 9 = .ok (.if_icmp .ge 13, 3) := by decide +kernel
theorem dX6_hasInput_12 : decode cX6_hasInput 12 = .ok (.iload_n 1, 1) := by decide +kernel
theorem dX6_hasInput_13 : decode cX6_hasInput 13 = .ok (.bipush 8, 2) := by decide +kernel
theorem dX6_hasInput_15 : decode cX6_hasInput 15 = .ok (.if_icmp .ge 7, 3) := by decide +kernel
theorem dX6_hasInput_18 : decode cX6_hasInput 18 = .ok (.iconst 1, 1) := by decide +kernel
theorem dX6_hasInput_19 : decode cX6_hasInput 19 = .ok (.goto 4, 3) := by decide +kernel
theorem dX6_hasInput_22 : decode cX6_hasInput 22 = .ok (.iconst 0, 1) := by decide +kernel
theorem dX6_hasInput_23 : decode cX6_hasInput 23 = .ok (.ireturn, 1) := by decide +kernel
def f_X6_hasInput (m : zz_Mem) (p1 : Int32) : Option Int32 :=
  if p1 < 0 then (
  some (0 : Int32))
  else (
  if (m.1 2 5) ≤ p1 then (
  some (0 : Int32))
  else (
  if (8 : Int32) ≤ p1 then (
  some (0 : Int32))
  else (
  some (1 : Int32))))
theorem k_X6_hasInput {l : Launch} {G : zz_G} (hN : 107 ≤ zz_N G) : ∀ (p1 : Int32) (m : zz_Mem), zz_Con zz_sh l G mX6_hasInput 0 [.ref (zz_a G 2), .int p1] zz_vIr (zz_mC m) (f_X6_hasInput m p1) m := by
  intro p1 m
  refine zz_con (lv := [(0, .ref (zz_a G 2)), (1, .int p1)]) (by decide +kernel) (Nat.le_of_ble_eq_true rfl) rfl ?_
  unfold f_X6_hasInput
  refine zs_iload_n dX6_hasInput_0 rfl 1 rfl ?_
  refine zs_if_lt (tgt := 22) dX6_hasInput_1 (by decide) ?_ ?_
  · refine zs_iconst (v := (0 : Int32)) dX6_hasInput_22 ci_0 ?_
    exact zs_zret dX6_hasInput_23 rfl rfl rfl rfl
  · refine zs_iload_n dX6_hasInput_4 rfl 1 rfl ?_
    refine zs_aload_n dX6_hasInput_5 rfl 0 rfl ?_
    refine zs_getI fl_X6_57 dX6_hasInput_6 (sh_2 hN) rfl ?_
    refine zs_icmp_ge (tgt := 22) dX6_hasInput_9 (by decide) ?_ ?_
    · refine zs_iconst (v := (0 : Int32)) dX6_hasInput_22 ci_0 ?_
      exact zs_zret dX6_hasInput_23 rfl rfl rfl rfl
    · refine zs_iload_n dX6_hasInput_12 rfl 1 rfl ?_
      refine zs_bipush (v := (8 : Int32)) dX6_hasInput_13 cb_8 ?_
      refine zs_icmp_ge (tgt := 22) dX6_hasInput_15 (by decide) ?_ ?_
      · refine zs_iconst (v := (0 : Int32)) dX6_hasInput_22 ci_0 ?_
        exact zs_zret dX6_hasInput_23 rfl rfl rfl rfl
      · refine zs_iconst (v := (1 : Int32)) dX6_hasInput_18 ci_1 ?_
        refine zs_goto (tgt := 23) dX6_hasInput_19 (by decide) ?_
        exact zs_zret dX6_hasInput_23 rfl rfl rfl rfl
/-! X6_hasFlow: PillarDesk$Plan.hasFlow(I)Z -/
theorem dX6_hasFlow_0 : decode cX6_hasFlow 0 = .ok (.iload_n 1, 1) := by decide +kernel
theorem dX6_hasFlow_1 : decode cX6_hasFlow 1 = .ok (.ifCond .lt 21, 3) := by decide +kernel
theorem dX6_hasFlow_4 : decode cX6_hasFlow 4 = .ok (.iload_n 1, 1) := by decide +kernel
theorem dX6_hasFlow_5 : decode cX6_hasFlow 5 = .ok (.aload_n 0, 1) := by decide +kernel
theorem dX6_hasFlow_6 : decode cX6_hasFlow 6 = .ok (.getfield 60, 3) := by decide +kernel
theorem dX6_hasFlow_9 : decode cX6_hasFlow 9 = .ok (.if_icmp .ge 13, 3) := by decide +kernel
theorem dX6_hasFlow_12 : decode cX6_hasFlow 12 = .ok (.iload_n 1, 1) := by decide +kernel
theorem dX6_hasFlow_13 : decode cX6_hasFlow 13 = .ok (.bipush 10, 2) := by decide +kernel
theorem dX6_hasFlow_15 : decode cX6_hasFlow 15 = .ok (.if_icmp .ge 7, 3) := by decide +kernel
theorem dX6_hasFlow_18 : decode cX6_hasFlow 18 = .ok (.iconst 1, 1) := by decide +kernel
theorem dX6_hasFlow_19 : decode cX6_hasFlow 19 = .ok (.goto 4, 3) := by decide +kernel
theorem dX6_hasFlow_22 : decode cX6_hasFlow 22 = .ok (.iconst 0, 1) := by decide +kernel
theorem dX6_hasFlow_23 : decode cX6_hasFlow 23 = .ok (.ireturn, 1) := by decide +kernel
def f_X6_hasFlow (m : zz_Mem) (p1 : Int32) : Option Int32 :=
  if p1 < 0 then (
  some (0 : Int32))
  else (
  if (m.1 2 10) ≤ p1 then (
  some (0 : Int32))
  else (
  if (10 : Int32) ≤ p1 then (
  some (0 : Int32))
  else (
  some (1 : Int32))))
theorem k_X6_hasFlow {l : Launch} {G : zz_G} (hN : 107 ≤ zz_N G) : ∀ (p1 : Int32) (m : zz_Mem), zz_Con zz_sh l G mX6_hasFlow 0 [.ref (zz_a G 2), .int p1] zz_vIr (zz_mC m) (f_X6_hasFlow m p1) m := by
  intro p1 m
  refine zz_con (lv := [(0, .ref (zz_a G 2)), (1, .int p1)]) (by decide +kernel) (Nat.le_of_ble_eq_true rfl) rfl ?_
  unfold f_X6_hasFlow
  refine zs_iload_n dX6_hasFlow_0 rfl 1 rfl ?_
  refine zs_if_lt (tgt := 22) dX6_hasFlow_1 (by decide) ?_ ?_
  · refine zs_iconst (v := (0 : Int32)) dX6_hasFlow_22 ci_0 ?_
    exact zs_zret dX6_hasFlow_23 rfl rfl rfl rfl
  · refine zs_iload_n dX6_hasFlow_4 rfl 1 rfl ?_
    refine zs_aload_n dX6_hasFlow_5 rfl 0 rfl ?_
    refine zs_getI fl_X6_60 dX6_hasFlow_6 (sh_2 hN) rfl ?_
    refine zs_icmp_ge (tgt := 22) dX6_hasFlow_9 (by decide) ?_ ?_
    · refine zs_iconst (v := (0 : Int32)) dX6_hasFlow_22 ci_0 ?_
      exact zs_zret dX6_hasFlow_23 rfl rfl rfl rfl
    · refine zs_iload_n dX6_hasFlow_12 rfl 1 rfl ?_
      refine zs_bipush (v := (10 : Int32)) dX6_hasFlow_13 cb_10 ?_
      refine zs_icmp_ge (tgt := 22) dX6_hasFlow_15 (by decide) ?_ ?_
      · refine zs_iconst (v := (0 : Int32)) dX6_hasFlow_22 ci_0 ?_
        exact zs_zret dX6_hasFlow_23 rfl rfl rfl rfl
      · refine zs_iconst (v := (1 : Int32)) dX6_hasFlow_18 ci_1 ?_
        refine zs_goto (tgt := 23) dX6_hasFlow_19 (by decide) ?_
        exact zs_zret dX6_hasFlow_23 rfl rfl rfl rfl
/-! X6_isHoliday: PillarDesk$Plan.isHoliday(I)Z -/
theorem dX6_isHoliday_0 : decode cX6_isHoliday 0 = .ok (.iconst 0, 1) := by decide +kernel
theorem dX6_isHoliday_1 : decode cX6_isHoliday 1 = .ok (.istore_n 2, 1) := by decide +kernel
theorem dX6_isHoliday_2 : decode cX6_isHoliday 2 = .ok (.iload_n 2, 1) := by decide +kernel
theorem dX6_isHoliday_3 : decode cX6_isHoliday 3 = .ok (.aload_n 0, 1) := by decide +kernel
theorem dX6_isHoliday_4 : decode cX6_isHoliday 4 = .ok (.getfield 54, 3) := by decide +kernel
theorem dX6_isHoliday_7 : decode cX6_isHoliday 7 = .ok (.if_icmp .ge 27, 3) := by decide +kernel
theorem dX6_isHoliday_10 : decode cX6_isHoliday 10 = .ok (.iload_n 2, 1) := by decide +kernel
theorem dX6_isHoliday_11 : decode cX6_isHoliday 11 = .ok (.bipush 12, 2) := by decide +kernel
theorem dX6_isHoliday_13 : decode cX6_isHoliday 13 = .ok (.if_icmp .ge 21, 3) := by decide +kernel
theorem dX6_isHoliday_16 : decode cX6_isHoliday 16 = .ok (.aload_n 0, 1) := by decide +kernel
theorem dX6_isHoliday_17 : decode cX6_isHoliday 17 = .ok (.getfield 9, 3) := by decide +kernel
theorem dX6_isHoliday_20 : decode cX6_isHoliday 20 = .ok (.iload_n 2, 1) := by decide +kernel
theorem dX6_isHoliday_21 : decode cX6_isHoliday 21 = .ok (.iaload, 1) := by decide +kernel
theorem dX6_isHoliday_22 : decode cX6_isHoliday 22 = .ok (.iload_n 1, 1) := by decide +kernel
theorem dX6_isHoliday_23 : decode cX6_isHoliday 23 = .ok (.if_icmp .ne 5, 3) := by decide +kernel
theorem dX6_isHoliday_26 : decode cX6_isHoliday 26 = .ok (.iconst 1, 1) := by decide +kernel
theorem dX6_isHoliday_27 : decode cX6_isHoliday 27 = .ok (.ireturn, 1) := by decide +kernel
theorem dX6_isHoliday_28 : decode cX6_isHoliday 28 = .ok (.iinc 2 1, 3) := by decide +kernel
theorem dX6_isHoliday_31 : decode cX6_isHoliday 31 = .ok (.goto (-29), 3) := by decide +kernel
theorem dX6_isHoliday_34 : decode cX6_isHoliday 34 = .ok (.iconst 0, 1) := by decide +kernel
theorem dX6_isHoliday_35 : decode cX6_isHoliday 35 = .ok (.ireturn, 1) := by decide +kernel
def f_X6_isHoliday_2 (m : zz_Mem)  : Nat → Int32 → Int32 → Option Int32
  | 0, _, _ => none
  | n + 1, v1, v2 =>
  if (m.1 2 3) ≤ v2 then (
  some (0 : Int32))
  else (
  if (12 : Int32) ≤ v2 then (
  some (0 : Int32))
  else (
  zz_ix v2 12 <|
  if (m.1 3 v2.toNatClampNeg) = v1 then (
  some (1 : Int32))
  else (
  zz_letI (v2 + (1 : Int32)) fun x1 =>
  f_X6_isHoliday_2 m n v1 x1)))
theorem t_X6_isHoliday_2 {l : Launch} {G : zz_G} (hN : 107 ≤ zz_N G) {m : zz_Mem}  : ∀ (n : Nat) (v1 : Int32) (v2 : Int32), zz_Sim zz_sh l G mX6_isHoliday 0 zz_vIr (zz_mC m) (f_X6_isHoliday_2 m n v1 v2) 2 [(0, .ref (zz_a G 2)), (1, .int v1), (2, .int v2)] [] m := by
  intro n
  induction n with
  | zero => intro _ _; exact zs_none
  | succ n ih =>
    intro v1 v2
    rw [f_X6_isHoliday_2]
    refine zs_iload_n dX6_isHoliday_2 rfl 2 rfl ?_
    refine zs_aload_n dX6_isHoliday_3 rfl 0 rfl ?_
    refine zs_getI fl_X6_54 dX6_isHoliday_4 (sh_2 hN) rfl ?_
    refine zs_icmp_ge (tgt := 34) dX6_isHoliday_7 (by decide) ?_ ?_
    · refine zs_iconst (v := (0 : Int32)) dX6_isHoliday_34 ci_0 ?_
      exact zs_zret dX6_isHoliday_35 rfl rfl rfl rfl
    · refine zs_iload_n dX6_isHoliday_10 rfl 2 rfl ?_
      refine zs_bipush (v := (12 : Int32)) dX6_isHoliday_11 cb_12 ?_
      refine zs_icmp_ge (tgt := 34) dX6_isHoliday_13 (by decide) ?_ ?_
      · refine zs_iconst (v := (0 : Int32)) dX6_isHoliday_34 ci_0 ?_
        exact zs_zret dX6_isHoliday_35 rfl rfl rfl rfl
      · refine zs_aload_n dX6_isHoliday_16 rfl 0 rfl ?_
        refine zs_getR fl_X6_9 dX6_isHoliday_17 (sh_2 hN) rfl ?_
        refine zs_iload_n dX6_isHoliday_20 rfl 2 rfl ?_
        refine zs_ialdG dX6_isHoliday_21 (sh_3 hN) ?_
        refine zs_iload_n dX6_isHoliday_22 rfl 1 rfl ?_
        refine zs_icmp_ne (tgt := 28) dX6_isHoliday_23 (by decide) ?_ ?_
        · refine zs_iinc (fun y => [(2, .int y), (0, .ref (zz_a G 2)), (1, .int v1)]) dX6_isHoliday_28 2 rfl ci_1 (Nat.le_of_ble_eq_true rfl) (fun _ => rfl) (fun x1 => ?_)
          refine zs_goto (tgt := 2) dX6_isHoliday_31 (by decide) ?_
          refine zs_sub [1, 2, 0] rfl ?_
          exact ih _ _
        · refine zs_iconst (v := (1 : Int32)) dX6_isHoliday_26 ci_1 ?_
          exact zs_zret dX6_isHoliday_27 rfl rfl rfl rfl
def f_X6_isHoliday (m : zz_Mem) (p1 : Int32) : Option Int32 :=
  f_X6_isHoliday_2 m zz_fuel p1 (0 : Int32)
theorem k_X6_isHoliday {l : Launch} {G : zz_G} (hN : 107 ≤ zz_N G) : ∀ (p1 : Int32) (m : zz_Mem), zz_Con zz_sh l G mX6_isHoliday 0 [.ref (zz_a G 2), .int p1] zz_vIr (zz_mC m) (f_X6_isHoliday m p1) m := by
  intro p1 m
  refine zz_con (lv := [(0, .ref (zz_a G 2)), (1, .int p1)]) (by decide +kernel) (Nat.le_of_ble_eq_true rfl) rfl ?_
  unfold f_X6_isHoliday
  refine zs_iconst (v := (0 : Int32)) dX6_isHoliday_0 ci_0 ?_
  refine zs_istore_n [(2, .int (0 : Int32)), (0, .ref (zz_a G 2)), (1, .int p1)] dX6_isHoliday_1 rfl (Nat.le_of_ble_eq_true rfl) rfl ?_
  refine zs_sub [1, 2, 0] rfl ?_
  exact t_X6_isHoliday_2 hN zz_fuel _ _
/-! X6_rateSum: PillarDesk$Plan.rateSum(LPillarDesk$Stand;)I -/
theorem dX6_rateSum_0 : decode cX6_rateSum 0 = .ok (.iconst 0, 1) := by decide +kernel
theorem dX6_rateSum_1 : decode cX6_rateSum 1 = .ok (.istore_n 2, 1) := by decide +kernel
theorem dX6_rateSum_2 : decode cX6_rateSum 2 = .ok (.iconst 0, 1) := by decide +kernel
theorem dX6_rateSum_3 : decode cX6_rateSum 3 = .ok (.istore_n 3, 1) := by decide +kernel
theorem dX6_rateSum_4 : decode cX6_rateSum 4 = .ok (.iload_n 3, 1) := by decide +kernel
theorem dX6_rateSum_5 : decode cX6_rateSum 5 = .ok (.aload_n 0, 1) := by decide +kernel
theorem dX6_rateSum_6 : decode cX6_rateSum 6 = .ok (.getfield 57, 3) := by decide +kernel
theorem dX6_rateSum_9 : decode cX6_rateSum 9 = .ok (.if_icmp .ge 24, 3) := by decide +kernel
theorem dX6_rateSum_12 : decode cX6_rateSum 12 = .ok (.iload_n 3, 1) := by decide +kernel
theorem dX6_rateSum_13 : decode cX6_rateSum 13 = .ok (.bipush 8, 2) := by decide +kernel
theorem dX6_rateSum_15 : decode cX6_rateSum 15 = .ok (.if_icmp .ge 18, 3) := by decide +kernel
theorem dX6_rateSum_18 : decode cX6_rateSum 18 = .ok (.iload_n 2, 1) := by decide +kernel
theorem dX6_rateSum_19 : decode cX6_rateSum 19 = .ok (.aload_n 1, 1) := by decide +kernel
theorem dX6_rateSum_20 : decode cX6_rateSum 20 = .ok (.getfield 79, 3) := by decide +kernel
theorem dX6_rateSum_23 : decode cX6_rateSum 23 = .ok (.iload_n 3, 1) := by decide +kernel
theorem dX6_rateSum_24 : decode cX6_rateSum 24 = .ok (.iaload, 1) := by decide +kernel
theorem dX6_rateSum_25 : decode cX6_rateSum 25 = .ok (.iadd, 1) := by decide +kernel
theorem dX6_rateSum_26 : decode cX6_rateSum 26 = .ok (.istore_n 2, 1) := by decide +kernel
theorem dX6_rateSum_27 : decode cX6_rateSum 27 = .ok (.iinc 3 1, 3) := by decide +kernel
theorem dX6_rateSum_30 : decode cX6_rateSum 30 = .ok (.goto (-26), 3) := by decide +kernel
theorem dX6_rateSum_33 : decode cX6_rateSum 33 = .ok (.iload_n 2, 1) := by decide +kernel
theorem dX6_rateSum_34 : decode cX6_rateSum 34 = .ok (.ireturn, 1) := by decide +kernel
def f_X6_rateSum_4 (o0 : Nat) (m : zz_Mem)  : Nat → Int32 → Int32 → Option Int32
  | 0, _, _ => none
  | n + 1, v2, v3 =>
  if (m.1 2 5) ≤ v3 then (
  some v2)
  else (
  if (8 : Int32) ≤ v3 then (
  some v2)
  else (
  zz_ix v3 8 <|
  zz_letI (v2 + (m.1 (o0 + 1) v3.toNatClampNeg)) fun x1 =>
  zz_letI (v3 + (1 : Int32)) fun x2 =>
  f_X6_rateSum_4 o0 m n x1 x2))
theorem t_X6_rateSum_4 {l : Launch} {G : zz_G} (hN : 107 ≤ zz_N G) {o0 : Nat} (ho0 : zz_isStand G o0) {m : zz_Mem}  : ∀ (n : Nat) (v2 : Int32) (v3 : Int32), zz_Sim zz_sh l G mX6_rateSum 0 zz_vIr (zz_mC m) (f_X6_rateSum_4 o0 m n v2 v3) 4 [(0, .ref (zz_a G 2)), (1, .ref (zz_a G o0)), (2, .int v2), (3, .int v3)] [] m := by
  intro n
  induction n with
  | zero => intro _ _; exact zs_none
  | succ n ih =>
    intro v2 v3
    rw [f_X6_rateSum_4]
    refine zs_iload_n dX6_rateSum_4 rfl 3 rfl ?_
    refine zs_aload_n dX6_rateSum_5 rfl 0 rfl ?_
    refine zs_getI fl_X6_57 dX6_rateSum_6 (sh_2 hN) rfl ?_
    refine zs_icmp_ge (tgt := 33) dX6_rateSum_9 (by decide) ?_ ?_
    · refine zs_iload_n dX6_rateSum_33 rfl 2 rfl ?_
      exact zs_iret dX6_rateSum_34 rfl rfl rfl
    · refine zs_iload_n dX6_rateSum_12 rfl 3 rfl ?_
      refine zs_bipush (v := (8 : Int32)) dX6_rateSum_13 cb_8 ?_
      refine zs_icmp_ge (tgt := 33) dX6_rateSum_15 (by decide) ?_ ?_
      · refine zs_iload_n dX6_rateSum_33 rfl 2 rfl ?_
        exact zs_iret dX6_rateSum_34 rfl rfl rfl
      · refine zs_iload_n dX6_rateSum_18 rfl 2 rfl ?_
        refine zs_aload_n dX6_rateSum_19 rfl 1 rfl ?_
        refine zs_getR fl_X6_79 dX6_rateSum_20 (ho0).1 rfl ?_
        refine zs_iload_n dX6_rateSum_23 rfl 3 rfl ?_
        refine zs_ialdG dX6_rateSum_24 (ho0).2.1 ?_
        refine zs_iadd dX6_rateSum_25 ?_
        refine zs_letI (fun x1 => ?_)
        refine zs_istore_n [(2, .int x1), (0, .ref (zz_a G 2)), (1, .ref (zz_a G o0)), (3, .int v3)] dX6_rateSum_26 rfl (Nat.le_of_ble_eq_true rfl) rfl ?_
        refine zs_iinc (fun y => [(3, .int y), (2, .int x1), (0, .ref (zz_a G 2)), (1, .ref (zz_a G o0))]) dX6_rateSum_27 3 rfl ci_1 (Nat.le_of_ble_eq_true rfl) (fun _ => rfl) (fun x2 => ?_)
        refine zs_goto (tgt := 4) dX6_rateSum_30 (by decide) ?_
        refine zs_sub [2, 3, 1, 0] rfl ?_
        exact ih _ _
def f_X6_rateSum (o0 : Nat) (m : zz_Mem)  : Option Int32 :=
  f_X6_rateSum_4 o0 m zz_fuel (0 : Int32) (0 : Int32)
theorem k_X6_rateSum {l : Launch} {G : zz_G} (hN : 107 ≤ zz_N G) {o0 : Nat} (ho0 : zz_isStand G o0) : ∀ (m : zz_Mem), zz_Con zz_sh l G mX6_rateSum 0 [.ref (zz_a G 2), .ref (zz_a G o0)] zz_vIr (zz_mC m) (f_X6_rateSum o0 m) m := by
  intro m
  refine zz_con (lv := [(0, .ref (zz_a G 2)), (1, .ref (zz_a G o0))]) (by decide +kernel) (Nat.le_of_ble_eq_true rfl) rfl ?_
  unfold f_X6_rateSum
  refine zs_iconst (v := (0 : Int32)) dX6_rateSum_0 ci_0 ?_
  refine zs_istore_n [(2, .int (0 : Int32)), (0, .ref (zz_a G 2)), (1, .ref (zz_a G o0))] dX6_rateSum_1 rfl (Nat.le_of_ble_eq_true rfl) rfl ?_
  refine zs_iconst (v := (0 : Int32)) dX6_rateSum_2 ci_0 ?_
  refine zs_istore_n [(3, .int (0 : Int32)), (2, .int (0 : Int32)), (0, .ref (zz_a G 2)), (1, .ref (zz_a G o0))] dX6_rateSum_3 rfl (Nat.le_of_ble_eq_true rfl) rfl ?_
  refine zs_sub [2, 3, 1, 0] rfl ?_
  exact t_X6_rateSum_4 hN ho0 zz_fuel _ _
/-! X6_doBump: PillarDesk$Plan.doBump(LPillarDesk$Stand;II)I -/
theorem dX6_doBump_0 : decode cX6_doBump 0 = .ok (.aload_n 0, 1) := by decide +kernel
theorem dX6_doBump_1 : decode cX6_doBump 1 = .ok (.iload_n 2, 1) := by decide +kernel
theorem dX6_doBump_2 : decode cX6_doBump 2 = .ok (.invokevirtual 82, 3) := by decide +kernel
theorem dX6_doBump_5 : decode cX6_doBump 5 = .ok (.ifCond .eq 15, 3) := by decide +kernel
theorem dX6_doBump_8 : decode cX6_doBump 8 = .ok (.iload_n 3, 1) := by decide +kernel
theorem dX6_doBump_9 : decode cX6_doBump 9 = .ok (.bipush (-99), 2) := by decide +kernel
theorem dX6_doBump_11 : decode cX6_doBump 11 = .ok (.if_icmp .lt 9, 3) := by decide +kernel
theorem dX6_doBump_14 : decode cX6_doBump 14 = .ok (.iload_n 3, 1) := by decide +kernel
theorem dX6_doBump_15 : decode cX6_doBump 15 = .ok (.bipush 99, 2) := by decide +kernel
theorem dX6_doBump_17 : decode cX6_doBump 17 = .ok (.if_icmp .le 5, 3) := by decide +kernel
theorem dX6_doBump_20 : decode cX6_doBump 20 = .ok (.iconst 1, 1) := by decide +kernel
theorem dX6_doBump_21 : decode cX6_doBump 21 = .ok (.ireturn, 1) := by decide +kernel
theorem dX6_doBump_22 : decode cX6_doBump 22 = .ok (.aload_n 1, 1) := by decide +kernel
theorem dX6_doBump_23 : decode cX6_doBump 23 = .ok (.getfield 79, 3) := by decide +kernel
theorem dX6_doBump_26 : decode cX6_doBump 26 = .ok (.iload_n 2, 1) := by decide +kernel
theorem dX6_doBump_27 : decode cX6_doBump 27 = .ok (.iaload, 1) := by decide +kernel
theorem dX6_doBump_28 : decode cX6_doBump 28 = .ok (.iload_n 3, 1) := by decide +kernel
theorem dX6_doBump_29 : decode cX6_doBump 29 = .ok (.iadd, 1) := by decide +kernel
theorem dX6_doBump_30 : decode cX6_doBump 30 = .ok (.istore 4, 2) := by decide +kernel
theorem dX6_doBump_32 : decode cX6_doBump 32 = .ok (.iload 4, 2) := by decide +kernel
theorem dX6_doBump_34 : decode cX6_doBump 34 = .ok (.ifCond .lt 11, 3) := by decide +kernel
theorem dX6_doBump_37 : decode cX6_doBump 37 = .ok (.iload 4, 2) := by decide +kernel
theorem dX6_doBump_39 : decode cX6_doBump 39 = .ok (.sipush 999, 3) := by decide +kernel
theorem dX6_doBump_42 : decode cX6_doBump 42 = .ok (.if_icmp .le 5, 3) := by decide +kernel
theorem dX6_doBump_45 : decode cX6_doBump 45 = .ok (.iconst 2, 1) := by decide +kernel
theorem dX6_doBump_46 : decode cX6_doBump 46 = .ok (.ireturn, 1) := by decide +kernel
theorem dX6_doBump_47 : decode cX6_doBump 47 = .ok (.aload_n 1, 1) := by decide +kernel
theorem dX6_doBump_48 : decode cX6_doBump 48 = .ok (.getfield 79, 3) := by decide +kernel
theorem dX6_doBump_51 : decode cX6_doBump 51 = .ok (.iload_n 2, 1) := by decide +kernel
theorem dX6_doBump_52 : decode cX6_doBump 52 = .ok (.iload 4, 2) := by decide +kernel
theorem dX6_doBump_54 : decode cX6_doBump 54 = .ok (.iastore, 1) := by decide +kernel
theorem dX6_doBump_55 : decode cX6_doBump 55 = .ok (.iconst 0, 1) := by decide +kernel
theorem dX6_doBump_56 : decode cX6_doBump 56 = .ok (.ireturn, 1) := by decide +kernel
def f_X6_doBump (o0 : Nat) (p2 : Int32) (p3 : Int32) (m : zz_Mem) : Option (Int32 × zz_Mem) :=
  zz_bndR (f_X6_hasInput m p2) fun r1 =>
  if r1 = 0 then (
  some ((1 : Int32), m))
  else (
  if p3 < (-99 : Int32) then (
  some ((1 : Int32), m))
  else (
  if p3 ≤ (99 : Int32) then (
  zz_ix p2 8 <|
  zz_letI ((m.1 (o0 + 1) p2.toNatClampNeg) + p3) fun x2 =>
  if x2 < 0 then (
  some ((2 : Int32), m))
  else (
  if x2 ≤ (999 : Int32) then (
  zz_ix p2 8 <| zz_letM (zz_setI m (o0 + 1) p2.toNatClampNeg x2) fun m3 =>
  some ((0 : Int32), m3))
  else (
  some ((2 : Int32), m))))
  else (
  some ((1 : Int32), m))))
theorem k_X6_doBump {l : Launch} {G : zz_G} (hN : 107 ≤ zz_N G) {o0 : Nat} (ho0 : zz_isStand G o0) : ∀ (p2 : Int32) (p3 : Int32) (m : zz_Mem), zz_Con zz_sh l G mX6_doBump 1 [.ref (zz_a G 2), .ref (zz_a G o0), .int p2, .int p3] zz_vI zz_m2 (f_X6_doBump o0 p2 p3 m) m := by
  intro p2 p3 m
  refine zz_con (lv := [(0, .ref (zz_a G 2)), (1, .ref (zz_a G o0)), (2, .int p2), (3, .int p3)]) (by decide +kernel) (Nat.le_of_ble_eq_true rfl) rfl ?_
  unfold f_X6_doBump
  refine zs_aload_n dX6_doBump_0 rfl 0 rfl ?_
  refine zs_iload_n dX6_doBump_1 rfl 2 rfl ?_
  refine zs_cV_iR (rest := []) (k_X6_hasInput hN _ _) dX6_doBump_2 lv_X6_82 ok_X6_hasInput (zz_rcv_o (sh_2 hN) rfl) (Nat.le_of_ble_eq_true rfl) rfl rfl (Nat.le_of_ble_eq_true rfl) (fun r1 => ?_)
  refine zs_if_eq (tgt := 20) dX6_doBump_5 (by decide) ?_ ?_
  · refine zs_iconst (v := (1 : Int32)) dX6_doBump_20 ci_1 ?_
    exact zs_iret dX6_doBump_21 rfl rfl rfl
  · refine zs_iload_n dX6_doBump_8 rfl 3 rfl ?_
    refine zs_bipush (v := (-99 : Int32)) dX6_doBump_9 cb_m99 ?_
    refine zs_icmp_lt (tgt := 20) dX6_doBump_11 (by decide) ?_ ?_
    · refine zs_iconst (v := (1 : Int32)) dX6_doBump_20 ci_1 ?_
      exact zs_iret dX6_doBump_21 rfl rfl rfl
    · refine zs_iload_n dX6_doBump_14 rfl 3 rfl ?_
      refine zs_bipush (v := (99 : Int32)) dX6_doBump_15 cb_99 ?_
      refine zs_icmp_le (tgt := 22) dX6_doBump_17 (by decide) ?_ ?_
      · refine zs_aload_n dX6_doBump_22 rfl 1 rfl ?_
        refine zs_getR fl_X6_79 dX6_doBump_23 (ho0).1 rfl ?_
        refine zs_iload_n dX6_doBump_26 rfl 2 rfl ?_
        refine zs_ialdG dX6_doBump_27 (ho0).2.1 ?_
        refine zs_iload_n dX6_doBump_28 rfl 3 rfl ?_
        refine zs_iadd dX6_doBump_29 ?_
        refine zs_letI (fun x2 => ?_)
        refine zs_istore [(4, .int x2), (0, .ref (zz_a G 2)), (1, .ref (zz_a G o0)), (2, .int p2), (3, .int p3)] dX6_doBump_30 (Nat.le_of_ble_eq_true rfl) rfl ?_
        refine zs_iload dX6_doBump_32 0 rfl ?_
        refine zs_if_lt (tgt := 45) dX6_doBump_34 (by decide) ?_ ?_
        · refine zs_iconst (v := (2 : Int32)) dX6_doBump_45 ci_2 ?_
          exact zs_iret dX6_doBump_46 rfl rfl rfl
        · refine zs_iload dX6_doBump_37 0 rfl ?_
          refine zs_sipush (v := (999 : Int32)) dX6_doBump_39 cs_999 ?_
          refine zs_icmp_le (tgt := 47) dX6_doBump_42 (by decide) ?_ ?_
          · refine zs_aload_n dX6_doBump_47 rfl 2 rfl ?_
            refine zs_getR fl_X6_79 dX6_doBump_48 (ho0).1 rfl ?_
            refine zs_iload_n dX6_doBump_51 rfl 3 rfl ?_
            refine zs_iload dX6_doBump_52 0 rfl ?_
            refine zs_iastG dX6_doBump_54 (ho0).2.1 (fun m3 => ?_)
            refine zs_iconst (v := (0 : Int32)) dX6_doBump_55 ci_0 ?_
            exact zs_iret dX6_doBump_56 rfl rfl rfl
          · refine zs_iconst (v := (2 : Int32)) dX6_doBump_45 ci_2 ?_
            exact zs_iret dX6_doBump_46 rfl rfl rfl
      · refine zs_iconst (v := (1 : Int32)) dX6_doBump_20 ci_1 ?_
        exact zs_iret dX6_doBump_21 rfl rfl rfl
/-! X6_doShift: PillarDesk$Plan.doShift(LPillarDesk$Stand;I)I -/
theorem dX6_doShift_0 : decode cX6_doShift 0 = .ok (.iload_n 2, 1) := by decide +kernel
theorem dX6_doShift_1 : decode cX6_doShift 1 = .ok (.ifCond .lt 9, 3) := by decide +kernel
theorem dX6_doShift_4 : decode cX6_doShift 4 = .ok (.iload_n 2, 1) := by decide +kernel
theorem dX6_doShift_5 : decode cX6_doShift 5 = .ok (.bipush 10, 2) := by decide +kernel
theorem dX6_doShift_7 : decode cX6_doShift 7 = .ok (.if_icmp .lt 5, 3) := by decide +kernel
theorem dX6_doShift_10 : decode cX6_doShift 10 = .ok (.iconst 1, 1) := by decide +kernel
theorem dX6_doShift_11 : decode cX6_doShift 11 = .ok (.ireturn, 1) := by decide +kernel
theorem dX6_doShift_12 : decode cX6_doShift 12 = .ok (.aload_n 1, 1) := by decide +kernel
theorem dX6_doShift_13 : decode cX6_doShift 13 = .ok (.iload_n 2, 1) := by decide +kernel
theorem dX6_doShift_14 : decode cX6_doShift 14 = .ok (.putfield 86, 3) := by decide +kernel
theorem dX6_doShift_17 : decode cX6_doShift 17 = .ok (.iconst 0, 1) := by decide +kernel
theorem dX6_doShift_18 : decode cX6_doShift 18 = .ok (.ireturn, 1) := by decide +kernel
def f_X6_doShift (o0 : Nat) (p2 : Int32) (m : zz_Mem) : Option (Int32 × zz_Mem) :=
  if p2 < 0 then (
  some ((1 : Int32), m))
  else (
  if p2 < (10 : Int32) then (
  zz_letM (zz_setI m o0 2 p2) fun m1 =>
  some ((0 : Int32), m1))
  else (
  some ((1 : Int32), m)))
theorem k_X6_doShift {l : Launch} {G : zz_G} (hN : 107 ≤ zz_N G) {o0 : Nat} (ho0 : zz_isStand G o0) : ∀ (p2 : Int32) (m : zz_Mem), zz_Con zz_sh l G mX6_doShift 0 [.ref (zz_a G 2), .ref (zz_a G o0), .int p2] zz_vI zz_m2 (f_X6_doShift o0 p2 m) m := by
  intro p2 m
  refine zz_con (lv := [(0, .ref (zz_a G 2)), (1, .ref (zz_a G o0)), (2, .int p2)]) (by decide +kernel) (Nat.le_of_ble_eq_true rfl) rfl ?_
  unfold f_X6_doShift
  refine zs_iload_n dX6_doShift_0 rfl 2 rfl ?_
  refine zs_if_lt (tgt := 10) dX6_doShift_1 (by decide) ?_ ?_
  · refine zs_iconst (v := (1 : Int32)) dX6_doShift_10 ci_1 ?_
    exact zs_iret dX6_doShift_11 rfl rfl rfl
  · refine zs_iload_n dX6_doShift_4 rfl 2 rfl ?_
    refine zs_bipush (v := (10 : Int32)) dX6_doShift_5 cb_10 ?_
    refine zs_icmp_lt (tgt := 12) dX6_doShift_7 (by decide) ?_ ?_
    · refine zs_aload_n dX6_doShift_12 rfl 1 rfl ?_
      refine zs_iload_n dX6_doShift_13 rfl 2 rfl ?_
      refine zs_putI fl_X6_86 dX6_doShift_14 (ho0).1 rfl ⟨rfl, rfl⟩ (fun m1 => ?_)
      refine zs_iconst (v := (0 : Int32)) dX6_doShift_17 ci_0 ?_
      exact zs_iret dX6_doShift_18 rfl rfl rfl
    · refine zs_iconst (v := (1 : Int32)) dX6_doShift_10 ci_1 ?_
      exact zs_iret dX6_doShift_11 rfl rfl rfl
/-! X6_doAmount: PillarDesk$Plan.doAmount(LPillarDesk$Stand;II)I -/
theorem dX6_doAmount_0 : decode cX6_doAmount 0 = .ok (.aload_n 0, 1) := by decide +kernel
theorem dX6_doAmount_1 : decode cX6_doAmount 1 = .ok (.iload_n 2, 1) := by decide +kernel
theorem dX6_doAmount_2 : decode cX6_doAmount 2 = .ok (.invokevirtual 89, 3) := by decide +kernel
theorem dX6_doAmount_5 : decode cX6_doAmount 5 = .ok (.ifCond .eq 17, 3) := by decide +kernel
theorem dX6_doAmount_8 : decode cX6_doAmount 8 = .ok (.iload_n 3, 1) := by decide +kernel
theorem dX6_doAmount_9 : decode cX6_doAmount 9 = .ok (.sipush (-999), 3) := by decide +kernel
theorem dX6_doAmount_12 : decode cX6_doAmount 12 = .ok (.if_icmp .lt 10, 3) := by decide +kernel
theorem dX6_doAmount_15 : decode cX6_doAmount 15 = .ok (.iload_n 3, 1) := by decide +kernel
theorem dX6_doAmount_16 : decode cX6_doAmount 16 = .ok (.sipush 999, 3) := by decide +kernel
theorem dX6_doAmount_19 : decode cX6_doAmount 19 = .ok (.if_icmp .le 5, 3) := by decide +kernel
theorem dX6_doAmount_22 : decode cX6_doAmount 22 = .ok (.iconst 1, 1) := by decide +kernel
theorem dX6_doAmount_23 : decode cX6_doAmount 23 = .ok (.ireturn, 1) := by decide +kernel
theorem dX6_doAmount_24 : decode cX6_doAmount 24 = .ok (.aload_n 1, 1) := by decide +kernel
theorem dX6_doAmount_25 : decode cX6_doAmount 25 = .ok (.getfield 92, 3) := by decide +kernel
theorem dX6_doAmount_28 : decode cX6_doAmount 28 = .ok (.iload_n 2, 1) := by decide +kernel
theorem dX6_doAmount_29 : decode cX6_doAmount 29 = .ok (.iload_n 3, 1) := by decide +kernel
theorem dX6_doAmount_30 : decode cX6_doAmount 30 = .ok (.iastore, 1) := by decide +kernel
theorem dX6_doAmount_31 : decode cX6_doAmount 31 = .ok (.iconst 0, 1) := by decide +kernel
theorem dX6_doAmount_32 : decode cX6_doAmount 32 = .ok (.ireturn, 1) := by decide +kernel
def f_X6_doAmount (o0 : Nat) (p2 : Int32) (p3 : Int32) (m : zz_Mem) : Option (Int32 × zz_Mem) :=
  zz_bndR (f_X6_hasFlow m p2) fun r1 =>
  if r1 = 0 then (
  some ((1 : Int32), m))
  else (
  if p3 < (-999 : Int32) then (
  some ((1 : Int32), m))
  else (
  if p3 ≤ (999 : Int32) then (
  zz_ix p2 10 <| zz_letM (zz_setI m (o0 + 2) p2.toNatClampNeg p3) fun m2 =>
  some ((0 : Int32), m2))
  else (
  some ((1 : Int32), m))))
theorem k_X6_doAmount {l : Launch} {G : zz_G} (hN : 107 ≤ zz_N G) {o0 : Nat} (ho0 : zz_isStand G o0) : ∀ (p2 : Int32) (p3 : Int32) (m : zz_Mem), zz_Con zz_sh l G mX6_doAmount 1 [.ref (zz_a G 2), .ref (zz_a G o0), .int p2, .int p3] zz_vI zz_m2 (f_X6_doAmount o0 p2 p3 m) m := by
  intro p2 p3 m
  refine zz_con (lv := [(0, .ref (zz_a G 2)), (1, .ref (zz_a G o0)), (2, .int p2), (3, .int p3)]) (by decide +kernel) (Nat.le_of_ble_eq_true rfl) rfl ?_
  unfold f_X6_doAmount
  refine zs_aload_n dX6_doAmount_0 rfl 0 rfl ?_
  refine zs_iload_n dX6_doAmount_1 rfl 2 rfl ?_
  refine zs_cV_iR (rest := []) (k_X6_hasFlow hN _ _) dX6_doAmount_2 lv_X6_89 ok_X6_hasFlow (zz_rcv_o (sh_2 hN) rfl) (Nat.le_of_ble_eq_true rfl) rfl rfl (Nat.le_of_ble_eq_true rfl) (fun r1 => ?_)
  refine zs_if_eq (tgt := 22) dX6_doAmount_5 (by decide) ?_ ?_
  · refine zs_iconst (v := (1 : Int32)) dX6_doAmount_22 ci_1 ?_
    exact zs_iret dX6_doAmount_23 rfl rfl rfl
  · refine zs_iload_n dX6_doAmount_8 rfl 3 rfl ?_
    refine zs_sipush (v := (-999 : Int32)) dX6_doAmount_9 cs_m999 ?_
    refine zs_icmp_lt (tgt := 22) dX6_doAmount_12 (by decide) ?_ ?_
    · refine zs_iconst (v := (1 : Int32)) dX6_doAmount_22 ci_1 ?_
      exact zs_iret dX6_doAmount_23 rfl rfl rfl
    · refine zs_iload_n dX6_doAmount_15 rfl 3 rfl ?_
      refine zs_sipush (v := (999 : Int32)) dX6_doAmount_16 cs_999 ?_
      refine zs_icmp_le (tgt := 24) dX6_doAmount_19 (by decide) ?_ ?_
      · refine zs_aload_n dX6_doAmount_24 rfl 1 rfl ?_
        refine zs_getR fl_X6_92 dX6_doAmount_25 (ho0).1 rfl ?_
        refine zs_iload_n dX6_doAmount_28 rfl 2 rfl ?_
        refine zs_iload_n dX6_doAmount_29 rfl 3 rfl ?_
        refine zs_iastG dX6_doAmount_30 (ho0).2.2 (fun m2 => ?_)
        refine zs_iconst (v := (0 : Int32)) dX6_doAmount_31 ci_0 ?_
        exact zs_iret dX6_doAmount_32 rfl rfl rfl
      · refine zs_iconst (v := (1 : Int32)) dX6_doAmount_22 ci_1 ?_
        exact zs_iret dX6_doAmount_23 rfl rfl rfl
/-! X6_doDeed: PillarDesk$Plan.doDeed(LPillarDesk$Stand;J)I -/
theorem dX6_doDeed_0 : decode cX6_doDeed 0 = .ok (.lload_n 2, 1) := by decide +kernel
theorem dX6_doDeed_1 : decode cX6_doDeed 1 = .ok (.ldc2_w 95, 3) := by decide +kernel
theorem dX6_doDeed_4 : decode cX6_doDeed 4 = .ok (.lcmp, 1) := by decide +kernel
theorem dX6_doDeed_5 : decode cX6_doDeed 5 = .ok (.ifCond .lt 22, 3) := by decide +kernel
theorem dX6_doDeed_8 : decode cX6_doDeed 8 = .ok (.lload_n 2, 1) := by decide +kernel
theorem dX6_doDeed_9 : decode cX6_doDeed 9 = .ok (.ldc2_w 97, 3) := by decide +kernel
theorem dX6_doDeed_12 : decode cX6_doDeed 12 = .ok (.lcmp, 1) := by decide +kernel
theorem dX6_doDeed_13 : decode cX6_doDeed 13 = .ok (.ifCond .gt 14, 3) := by decide +kernel
theorem dX6_doDeed_16 : decode cX6_doDeed 16 = .ok (.aload_n 0, 1) := by decide +kernel
theorem dX6_doDeed_17 : decode cX6_doDeed 17 = .ok (.aload_n 1, 1) := by decide +kernel
theorem dX6_doDeed_18 : decode cX6_doDeed 18 = .ok (.lload_n 2, 1) := by decide +kernel
theorem dX6_doDeed_19 : decode cX6_doDeed 19 = .ok (.l2i, 1) := by decide +kernel
theorem dX6_doDeed_20 : decode cX6_doDeed 20 = .ok (.bipush 10, 2) := by decide +kernel
theorem dX6_doDeed_22 : decode cX6_doDeed 22 = .ok (.isub, 1) := by decide +kernel
theorem dX6_doDeed_23 : decode cX6_doDeed 23 = .ok (.invokevirtual 99, 3) := by decide +kernel
theorem dX6_doDeed_26 : decode cX6_doDeed 26 = .ok (.ireturn, 1) := by decide +kernel
theorem dX6_doDeed_27 : decode cX6_doDeed 27 = .ok (.lload_n 2, 1) := by decide +kernel
theorem dX6_doDeed_28 : decode cX6_doDeed 28 = .ok (.ldc2_w 103, 3) := by decide +kernel
theorem dX6_doDeed_31 : decode cX6_doDeed 31 = .ok (.lcmp, 1) := by decide +kernel
theorem dX6_doDeed_32 : decode cX6_doDeed 32 = .ok (.ifCond .lt 34, 3) := by decide +kernel
theorem dX6_doDeed_35 : decode cX6_doDeed 35 = .ok (.lload_n 2, 1) := by decide +kernel
theorem dX6_doDeed_36 : decode cX6_doDeed 36 = .ok (.ldc2_w 105, 3) := by decide +kernel
theorem dX6_doDeed_39 : decode cX6_doDeed 39 = .ok (.lcmp, 1) := by decide +kernel
theorem dX6_doDeed_40 : decode cX6_doDeed 40 = .ok (.ifCond .gt 26, 3) := by decide +kernel
theorem dX6_doDeed_43 : decode cX6_doDeed 43 = .ok (.aload_n 0, 1) := by decide +kernel
theorem dX6_doDeed_44 : decode cX6_doDeed 44 = .ok (.aload_n 1, 1) := by decide +kernel
theorem dX6_doDeed_45 : decode cX6_doDeed 45 = .ok (.lload_n 2, 1) := by decide +kernel
theorem dX6_doDeed_46 : decode cX6_doDeed 46 = .ok (.l2i, 1) := by decide +kernel
theorem dX6_doDeed_47 : decode cX6_doDeed 47 = .ok (.sipush 1000, 3) := by decide +kernel
theorem dX6_doDeed_50 : decode cX6_doDeed 50 = .ok (.idiv, 1) := by decide +kernel
theorem dX6_doDeed_51 : decode cX6_doDeed 51 = .ok (.iconst 1, 1) := by decide +kernel
theorem dX6_doDeed_52 : decode cX6_doDeed 52 = .ok (.isub, 1) := by decide +kernel
theorem dX6_doDeed_53 : decode cX6_doDeed 53 = .ok (.lload_n 2, 1) := by decide +kernel
theorem dX6_doDeed_54 : decode cX6_doDeed 54 = .ok (.l2i, 1) := by decide +kernel
theorem dX6_doDeed_55 : decode cX6_doDeed 55 = .ok (.sipush 1000, 3) := by decide +kernel
theorem dX6_doDeed_58 : decode cX6_doDeed 58 = .ok (.irem, 1) := by decide +kernel
theorem dX6_doDeed_59 : decode cX6_doDeed 59 = .ok (.bipush 99, 2) := by decide +kernel
theorem dX6_doDeed_61 : decode cX6_doDeed 61 = .ok (.isub, 1) := by decide +kernel
theorem dX6_doDeed_62 : decode cX6_doDeed 62 = .ok (.invokevirtual 107, 3) := by decide +kernel
theorem dX6_doDeed_65 : decode cX6_doDeed 65 = .ok (.ireturn, 1) := by decide +kernel
theorem dX6_doDeed_66 : decode cX6_doDeed 66 = .ok (.lload_n 2, 1) := by decide +kernel
theorem dX6_doDeed_67 : decode cX6_doDeed 67 = .ok (.ldc2_w 111, 3) := by decide +kernel
theorem dX6_doDeed_70 : decode cX6_doDeed 70 = .ok (.lcmp, 1) := by decide +kernel
theorem dX6_doDeed_71 : decode cX6_doDeed 71 = .ok (.ifCond .lt 41, 3) := by decide +kernel
theorem dX6_doDeed_74 : decode cX6_doDeed 74 = .ok (.lload_n 2, 1) := by decide +kernel
theorem dX6_doDeed_75 : decode cX6_doDeed 75 = .ok (.ldc2_w 113, 3) := by decide +kernel
theorem dX6_doDeed_78 : decode cX6_doDeed 78 = .ok (.lcmp, 1) := by decide +kernel
theorem dX6_doDeed_79 : decode cX6_doDeed 79 = .ok (.ifCond .gt 33, 3) := by decide +kernel
theorem dX6_doDeed_82 : decode cX6_doDeed 82 = .ok (.lload_n 2, 1) := by decide +kernel
theorem dX6_doDeed_83 : decode cX6_doDeed 83 = .ok (.l2i, 1) := by decide +kernel
theorem dX6_doDeed_84 : decode cX6_doDeed 84 = .ok (.sipush 10000, 3) := by decide +kernel
theorem dX6_doDeed_87 : decode cX6_doDeed 87 = .ok (.isub, 1) := by decide +kernel
theorem dX6_doDeed_88 : decode cX6_doDeed 88 = .ok (.istore 4, 2) := by decide +kernel
theorem dX6_doDeed_90 : decode cX6_doDeed 90 = .ok (.aload_n 0, 1) := by decide +kernel
theorem dX6_doDeed_91 : decode cX6_doDeed 91 = .ok (.aload_n 1, 1) := by decide +kernel
theorem dX6_doDeed_92 : decode cX6_doDeed 92 = .ok (.iload 4, 2) := by decide +kernel
theorem dX6_doDeed_94 : decode cX6_doDeed 94 = .ok (.sipush 2000, 3) := by decide +kernel
theorem dX6_doDeed_97 : decode cX6_doDeed 97 = .ok (.idiv, 1) := by decide +kernel
theorem dX6_doDeed_98 : decode cX6_doDeed 98 = .ok (.iload 4, 2) := by decide +kernel
theorem dX6_doDeed_100 : decode cX6_doDeed 100 = .ok (.sipush 2000, 3) := by decide +kernel
theorem dX6_doDeed_103 : decode cX6_doDeed 103 = .ok (.irem, 1) := by decide +kernel
theorem dX6_doDeed_104 : decode cX6_doDeed 104 = .ok (.sipush 999, 3) := by decide +kernel
theorem dX6_doDeed_107 : decode cX6_doDeed 107 = .ok (.isub, 1) := by decide +kernel
theorem dX6_doDeed_108 : decode cX6_doDeed 108 = .ok (.invokevirtual 115, 3) := by decide +kernel
theorem dX6_doDeed_111 : decode cX6_doDeed 111 = .ok (.ireturn, 1) := by decide +kernel
theorem dX6_doDeed_112 : decode cX6_doDeed 112 = .ok (.iconst 1, 1) := by decide +kernel
theorem dX6_doDeed_113 : decode cX6_doDeed 113 = .ok (.ireturn, 1) := by decide +kernel
def f_X6_doDeed_66 (o0 : Nat)  (v2 : Int64) (m : zz_Mem) : Option (Int32 × zz_Mem) :=
  if v2 < (10000 : Int64) then (
  some ((1 : Int32), m))
  else (
  if (29999 : Int64) < v2 then (
  some ((1 : Int32), m))
  else (
  zz_letI (v2.toInt32 - (10000 : Int32)) fun x1 =>
  zz_bnd (f_X6_doAmount o0 (x1 / (2000 : Int32)) ((x1 - x1 / (2000 : Int32) * (2000 : Int32)) - (999 : Int32)) m) fun r2 m3 =>
  some (r2, m3)))
theorem t_X6_doDeed_66 {l : Launch} {G : zz_G} (hN : 107 ≤ zz_N G) {o0 : Nat} (ho0 : zz_isStand G o0)  : ∀ (v2 : Int64) (m : zz_Mem), zz_Sim zz_sh l G mX6_doDeed 2 zz_vI zz_m2 (f_X6_doDeed_66 o0 v2 m) 66 [(0, .ref (zz_a G 2)), (1, .ref (zz_a G o0)), (2, .long v2)] [] m := by
  intro v2 m
  unfold f_X6_doDeed_66
  refine zs_lload_n dX6_doDeed_66 rfl 2 rfl ?_
  refine zs_ldc2 (v := (10000 : Int64)) dX6_doDeed_67 kc_X6_111 ?_
  refine zs_lcmp_lt (tgt := 112) dX6_doDeed_70 dX6_doDeed_71 (by decide) ?_ ?_
  · refine zs_iconst (v := (1 : Int32)) dX6_doDeed_112 ci_1 ?_
    exact zs_iret dX6_doDeed_113 rfl rfl rfl
  · refine zs_lload_n dX6_doDeed_74 rfl 2 rfl ?_
    refine zs_ldc2 (v := (29999 : Int64)) dX6_doDeed_75 kc_X6_113 ?_
    refine zs_lcmp_gt (tgt := 112) dX6_doDeed_78 dX6_doDeed_79 (by decide) ?_ ?_
    · refine zs_iconst (v := (1 : Int32)) dX6_doDeed_112 ci_1 ?_
      exact zs_iret dX6_doDeed_113 rfl rfl rfl
    · refine zs_lload_n dX6_doDeed_82 rfl 2 rfl ?_
      refine zs_l2i dX6_doDeed_83 ?_
      refine zs_sipush (v := (10000 : Int32)) dX6_doDeed_84 cs_10000 ?_
      refine zs_isub dX6_doDeed_87 ?_
      refine zs_letI (fun x1 => ?_)
      refine zs_istore [(4, .int x1), (0, .ref (zz_a G 2)), (1, .ref (zz_a G o0)), (2, .long v2)] dX6_doDeed_88 (Nat.le_of_ble_eq_true rfl) rfl ?_
      refine zs_aload_n dX6_doDeed_90 rfl 1 rfl ?_
      refine zs_aload_n dX6_doDeed_91 rfl 2 rfl ?_
      refine zs_iload dX6_doDeed_92 0 rfl ?_
      refine zs_sipush (v := (2000 : Int32)) dX6_doDeed_94 cs_2000 ?_
      refine zs_idiv dX6_doDeed_97 (by decide) ?_
      refine zs_iload dX6_doDeed_98 0 rfl ?_
      refine zs_sipush (v := (2000 : Int32)) dX6_doDeed_100 cs_2000 ?_
      refine zs_irem dX6_doDeed_103 (by decide) ?_
      refine zs_sipush (v := (999 : Int32)) dX6_doDeed_104 cs_999 ?_
      refine zs_isub dX6_doDeed_107 ?_
      refine zs_cV_iW (rest := []) (k_X6_doAmount hN (ho0) _ _ _) dX6_doDeed_108 lv_X6_115 ok_X6_doAmount (zz_rcv_o (sh_2 hN) rfl) (Nat.le_of_ble_eq_true rfl) rfl rfl (Nat.le_of_ble_eq_true rfl) (fun r2 m3 => ?_)
      exact zs_iret dX6_doDeed_111 rfl rfl rfl
def f_X6_doDeed_27 (o0 : Nat)  (v2 : Int64) (m : zz_Mem) : Option (Int32 × zz_Mem) :=
  if v2 < (1000 : Int64) then (
  f_X6_doDeed_66 o0 v2 m)
  else (
  if (8999 : Int64) < v2 then (
  f_X6_doDeed_66 o0 v2 m)
  else (
  zz_bnd (f_X6_doBump o0 ((v2.toInt32 / (1000 : Int32)) - (1 : Int32)) ((v2.toInt32 - v2.toInt32 / (1000 : Int32) * (1000 : Int32)) - (99 : Int32)) m) fun r1 m2 =>
  some (r1, m2)))
theorem t_X6_doDeed_27 {l : Launch} {G : zz_G} (hN : 107 ≤ zz_N G) {o0 : Nat} (ho0 : zz_isStand G o0)  : ∀ (v2 : Int64) (m : zz_Mem), zz_Sim zz_sh l G mX6_doDeed 2 zz_vI zz_m2 (f_X6_doDeed_27 o0 v2 m) 27 [(0, .ref (zz_a G 2)), (1, .ref (zz_a G o0)), (2, .long v2)] [] m := by
  intro v2 m
  unfold f_X6_doDeed_27
  refine zs_lload_n dX6_doDeed_27 rfl 2 rfl ?_
  refine zs_ldc2 (v := (1000 : Int64)) dX6_doDeed_28 kc_X6_103 ?_
  refine zs_lcmp_lt (tgt := 66) dX6_doDeed_31 dX6_doDeed_32 (by decide) ?_ ?_
  · exact t_X6_doDeed_66 hN ho0 _ _
  · refine zs_lload_n dX6_doDeed_35 rfl 2 rfl ?_
    refine zs_ldc2 (v := (8999 : Int64)) dX6_doDeed_36 kc_X6_105 ?_
    refine zs_lcmp_gt (tgt := 66) dX6_doDeed_39 dX6_doDeed_40 (by decide) ?_ ?_
    · exact t_X6_doDeed_66 hN ho0 _ _
    · refine zs_aload_n dX6_doDeed_43 rfl 0 rfl ?_
      refine zs_aload_n dX6_doDeed_44 rfl 1 rfl ?_
      refine zs_lload_n dX6_doDeed_45 rfl 2 rfl ?_
      refine zs_l2i dX6_doDeed_46 ?_
      refine zs_sipush (v := (1000 : Int32)) dX6_doDeed_47 cs_1000 ?_
      refine zs_idiv dX6_doDeed_50 (by decide) ?_
      refine zs_iconst (v := (1 : Int32)) dX6_doDeed_51 ci_1 ?_
      refine zs_isub dX6_doDeed_52 ?_
      refine zs_lload_n dX6_doDeed_53 rfl 2 rfl ?_
      refine zs_l2i dX6_doDeed_54 ?_
      refine zs_sipush (v := (1000 : Int32)) dX6_doDeed_55 cs_1000 ?_
      refine zs_irem dX6_doDeed_58 (by decide) ?_
      refine zs_bipush (v := (99 : Int32)) dX6_doDeed_59 cb_99 ?_
      refine zs_isub dX6_doDeed_61 ?_
      refine zs_cV_iW (rest := []) (k_X6_doBump hN (ho0) _ _ _) dX6_doDeed_62 lv_X6_107 ok_X6_doBump (zz_rcv_o (sh_2 hN) rfl) (Nat.le_of_ble_eq_true rfl) rfl rfl (Nat.le_of_ble_eq_true rfl) (fun r1 m2 => ?_)
      exact zs_iret dX6_doDeed_65 rfl rfl rfl
def f_X6_doDeed (o0 : Nat) (p2 : Int64) (m : zz_Mem) : Option (Int32 × zz_Mem) :=
  if p2 < (10 : Int64) then (
  f_X6_doDeed_27 o0 p2 m)
  else (
  if (19 : Int64) < p2 then (
  f_X6_doDeed_27 o0 p2 m)
  else (
  zz_bnd (f_X6_doShift o0 (p2.toInt32 - (10 : Int32)) m) fun r1 m2 =>
  some (r1, m2)))
theorem k_X6_doDeed {l : Launch} {G : zz_G} (hN : 107 ≤ zz_N G) {o0 : Nat} (ho0 : zz_isStand G o0) : ∀ (p2 : Int64) (m : zz_Mem), zz_Con zz_sh l G mX6_doDeed 2 [.ref (zz_a G 2), .ref (zz_a G o0), .long p2] zz_vI zz_m2 (f_X6_doDeed o0 p2 m) m := by
  intro p2 m
  refine zz_con (lv := [(0, .ref (zz_a G 2)), (1, .ref (zz_a G o0)), (2, .long p2)]) (by decide +kernel) (Nat.le_of_ble_eq_true rfl) rfl ?_
  unfold f_X6_doDeed
  refine zs_lload_n dX6_doDeed_0 rfl 2 rfl ?_
  refine zs_ldc2 (v := (10 : Int64)) dX6_doDeed_1 kc_X6_95 ?_
  refine zs_lcmp_lt (tgt := 27) dX6_doDeed_4 dX6_doDeed_5 (by decide) ?_ ?_
  · exact t_X6_doDeed_27 hN ho0 _ _
  · refine zs_lload_n dX6_doDeed_8 rfl 2 rfl ?_
    refine zs_ldc2 (v := (19 : Int64)) dX6_doDeed_9 kc_X6_97 ?_
    refine zs_lcmp_gt (tgt := 27) dX6_doDeed_12 dX6_doDeed_13 (by decide) ?_ ?_
    · exact t_X6_doDeed_27 hN ho0 _ _
    · refine zs_aload_n dX6_doDeed_16 rfl 0 rfl ?_
      refine zs_aload_n dX6_doDeed_17 rfl 1 rfl ?_
      refine zs_lload_n dX6_doDeed_18 rfl 2 rfl ?_
      refine zs_l2i dX6_doDeed_19 ?_
      refine zs_bipush (v := (10 : Int32)) dX6_doDeed_20 cb_10 ?_
      refine zs_isub dX6_doDeed_22 ?_
      refine zs_cV_iW (rest := []) (k_X6_doShift hN (ho0) _ _) dX6_doDeed_23 lv_X6_99 ok_X6_doShift (zz_rcv_o (sh_2 hN) rfl) (Nat.le_of_ble_eq_true rfl) rfl rfl (Nat.le_of_ble_eq_true rfl) (fun r1 m2 => ?_)
      exact zs_iret dX6_doDeed_26 rfl rfl rfl
/-! X11_inRateBounds: PillarDesk.inRateBounds(I)I -/
theorem dX11_inRateBounds_0 : decode cX11_inRateBounds 0 = .ok (.iconst 0, 1) := by decide +kernel
theorem dX11_inRateBounds_1 : decode cX11_inRateBounds 1 = .ok (.sipush 999, 3) := by decide +kernel
theorem dX11_inRateBounds_4 : decode cX11_inRateBounds 4 = .ok (.iload_n 0, 1) := by decide +kernel
theorem dX11_inRateBounds_5 : decode cX11_inRateBounds 5 = .ok (.invokestatic 294, 3) := by decide +kernel
theorem dX11_inRateBounds_8 : decode cX11_inRateBounds 8 = .ok (.invokestatic 299, 3) := by decide +kernel
theorem dX11_inRateBounds_11 : decode cX11_inRateBounds 11 = .ok (.ireturn, 1) := by decide +kernel
def f_X11_inRateBounds  (p0 : Int32) : Option Int32 :=
  zz_bndR (f_J9_min_7cf53 (999 : Int32) p0) fun r1 =>
  zz_bndR (f_J9_max_7cf53 (0 : Int32) r1) fun r2 =>
  some r2
theorem k_X11_inRateBounds {l : Launch} {G : zz_G} (hN : 107 ≤ zz_N G) : ∀ (p0 : Int32) (m : zz_Mem), zz_Con zz_sh l G mX11_inRateBounds 1 [.int p0] zz_vIr (zz_mC m) (f_X11_inRateBounds p0) m := by
  intro p0 m
  refine zz_con (lv := [(0, .int p0)]) (by decide +kernel) (Nat.le_of_ble_eq_true rfl) rfl ?_
  unfold f_X11_inRateBounds
  refine zs_iconst (v := (0 : Int32)) dX11_inRateBounds_0 ci_0 ?_
  refine zs_sipush (v := (999 : Int32)) dX11_inRateBounds_1 cs_999 ?_
  refine zs_iload_n dX11_inRateBounds_4 rfl 0 rfl ?_
  refine zs_cS_iR (rest := [.int (0 : Int32)]) (k_J9_min_7cf53 hN _ _ _) dX11_inRateBounds_5 ls_X11_294 ok_J9_min_7cf53 (Nat.le_of_ble_eq_true rfl) rfl rfl (Nat.le_of_ble_eq_true rfl) (fun r1 => ?_)
  refine zs_cS_iR (rest := []) (k_J9_max_7cf53 hN _ _ _) dX11_inRateBounds_8 ls_X11_299 ok_J9_max_7cf53 (Nat.le_of_ble_eq_true rfl) rfl rfl (Nat.le_of_ble_eq_true rfl) (fun r2 => ?_)
  exact zs_iret dX11_inRateBounds_11 rfl rfl rfl
/-! X11_noTray: PillarDesk.noTray(I)Z -/
theorem dX11_noTray_0 : decode cX11_noTray 0 = .ok (.iload_n 1, 1) := by decide +kernel
theorem dX11_noTray_1 : decode cX11_noTray 1 = .ok (.ifCond .lt 12, 3) := by decide +kernel
theorem dX11_noTray_4 : decode cX11_noTray 4 = .ok (.iload_n 1, 1) := by decide +kernel
theorem dX11_noTray_5 : decode cX11_noTray 5 = .ok (.aload_n 0, 1) := by decide +kernel
theorem dX11_noTray_6 : decode cX11_noTray 6 = .ok (.getfield 42, 3) := by decide +kernel
theorem dX11_noTray_9 : decode cX11_noTray 9 = .ok (.arraylength, 1) := by decide +kernel
theorem dX11_noTray_10 : decode cX11_noTray 10 = .ok (.if_icmp .lt 7, 3) := by decide +kernel
theorem dX11_noTray_13 : decode cX11_noTray 13 = .ok (.iconst 1, 1) := by decide +kernel
theorem dX11_noTray_14 : decode cX11_noTray 14 = .ok (.goto 4, 3) := by decide +kernel
theorem dX11_noTray_17 : decode cX11_noTray 17 = .ok (.iconst 0, 1) := by decide +kernel
theorem dX11_noTray_18 : decode cX11_noTray 18 = .ok (.ireturn, 1) := by decide +kernel
def f_X11_noTray (m : zz_Mem) (p1 : Int32) : Option Int32 :=
  if p1 < 0 then (
  some (1 : Int32))
  else (
  if p1 < (4 : Int32) then (
  some (0 : Int32))
  else (
  some (1 : Int32)))
theorem k_X11_noTray {l : Launch} {G : zz_G} (hN : 107 ≤ zz_N G) : ∀ (p1 : Int32) (m : zz_Mem), zz_Con zz_sh l G mX11_noTray 0 [.ref (zz_a G 0), .int p1] zz_vIr (zz_mC m) (f_X11_noTray m p1) m := by
  intro p1 m
  refine zz_con (lv := [(0, .ref (zz_a G 0)), (1, .int p1)]) (by decide +kernel) (Nat.le_of_ble_eq_true rfl) rfl ?_
  unfold f_X11_noTray
  refine zs_iload_n dX11_noTray_0 rfl 1 rfl ?_
  refine zs_if_lt (tgt := 13) dX11_noTray_1 (by decide) ?_ ?_
  · refine zs_iconst (v := (1 : Int32)) dX11_noTray_13 ci_1 ?_
    refine zs_goto (tgt := 18) dX11_noTray_14 (by decide) ?_
    exact zs_zret dX11_noTray_18 rfl rfl rfl rfl
  · refine zs_iload_n dX11_noTray_4 rfl 1 rfl ?_
    refine zs_aload_n dX11_noTray_5 rfl 0 rfl ?_
    refine zs_getR fl_X11_42 dX11_noTray_6 (sh_0 hN) rfl ?_
    refine zs_alen5 (v := (4 : Int32)) dX11_noTray_9 (sh_33 hN) al_4 ?_
    refine zs_icmp_lt (tgt := 17) dX11_noTray_10 (by decide) ?_ ?_
    · refine zs_iconst (v := (0 : Int32)) dX11_noTray_17 ci_0 ?_
      exact zs_zret dX11_noTray_18 rfl rfl rfl rfl
    · refine zs_iconst (v := (1 : Int32)) dX11_noTray_13 ci_1 ?_
      refine zs_goto (tgt := 18) dX11_noTray_14 (by decide) ?_
      exact zs_zret dX11_noTray_18 rfl rfl rfl rfl
