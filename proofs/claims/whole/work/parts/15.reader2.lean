/-! ===== models and walks: 15.reader2 ===== -/
/-! X7_readHead: PillarDesk$Reader.readHead()V -/
theorem dX7_readHead_0 : decode cX7_readHead 0 = .ok (.aload_n 0, 1) := by decide +kernel
theorem dX7_readHead_1 : decode cX7_readHead 1 = .ok (.ldc 103, 2) := by decide +kernel
theorem dX7_readHead_3 : decode cX7_readHead 3 = .ok (.invokevirtual 105, 3) := by decide +kernel
theorem dX7_readHead_6 : decode cX7_readHead 6 = .ok (.aload_n 0, 1) := by decide +kernel
theorem dX7_readHead_7 : decode cX7_readHead 7 = .ok (.ldc 109, 2) := by decide +kernel
theorem dX7_readHead_9 : decode cX7_readHead 9 = .ok (.invokevirtual 105, 3) := by decide +kernel
theorem dX7_readHead_12 : decode cX7_readHead 12 = .ok (.aload_n 0, 1) := by decide +kernel
theorem dX7_readHead_13 : decode cX7_readHead 13 = .ok (.getfield 19, 3) := by decide +kernel
theorem dX7_readHead_16 : decode cX7_readHead 16 = .ok (.aload_n 0, 1) := by decide +kernel
theorem dX7_readHead_17 : decode cX7_readHead 17 = .ok (.iconst 0, 1) := by decide +kernel
theorem dX7_readHead_18 : decode cX7_readHead 18 = .ok (.bipush 6, 2) := by decide +kernel
theorem dX7_readHead_20 : decode cX7_readHead 20 = .ok (.invokevirtual 111, 3) := by decide +kernel
theorem dX7_readHead_23 : decode cX7_readHead 23 = .ok (.putfield 114, 3) := by decide +kernel
theorem dX7_readHead_26 : decode cX7_readHead 26 = .ok (.aload_n 0, 1) := by decide +kernel
theorem dX7_readHead_27 : decode cX7_readHead 27 = .ok (.ldc 116, 2) := by decide +kernel
theorem dX7_readHead_29 : decode cX7_readHead 29 = .ok (.invokevirtual 105, 3) := by decide +kernel
theorem dX7_readHead_32 : decode cX7_readHead 32 = .ok (.aload_n 0, 1) := by decide +kernel
theorem dX7_readHead_33 : decode cX7_readHead 33 = .ok (.getfield 19, 3) := by decide +kernel
theorem dX7_readHead_36 : decode cX7_readHead 36 = .ok (.aload_n 0, 1) := by decide +kernel
theorem dX7_readHead_37 : decode cX7_readHead 37 = .ok (.iconst 0, 1) := by decide +kernel
theorem dX7_readHead_38 : decode cX7_readHead 38 = .ok (.iconst 1, 1) := by decide +kernel
theorem dX7_readHead_39 : decode cX7_readHead 39 = .ok (.invokevirtual 111, 3) := by decide +kernel
theorem dX7_readHead_42 : decode cX7_readHead 42 = .ok (.putfield 118, 3) := by decide +kernel
theorem dX7_readHead_45 : decode cX7_readHead 45 = .ok (.aload_n 0, 1) := by decide +kernel
theorem dX7_readHead_46 : decode cX7_readHead 46 = .ok (.ldc 120, 2) := by decide +kernel
theorem dX7_readHead_48 : decode cX7_readHead 48 = .ok (.invokevirtual 105, 3) := by decide +kernel
theorem dX7_readHead_51 : decode cX7_readHead 51 = .ok (.aload_n 0, 1) := by decide +kernel
theorem dX7_readHead_52 : decode cX7_readHead 52 = .ok (.getfield 19, 3) := by decide +kernel
theorem dX7_readHead_55 : decode cX7_readHead 55 = .ok (.getfield 122, 3) := by decide +kernel
theorem dX7_readHead_58 : decode cX7_readHead 58 = .ok (.aload_n 0, 1) := by decide +kernel
theorem dX7_readHead_59 : decode cX7_readHead 59 = .ok (.iconst 0, 1) := by decide +kernel
theorem dX7_readHead_60 : decode cX7_readHead 60 = .ok (.bipush 9, 2) := by decide +kernel
theorem dX7_readHead_62 : decode cX7_readHead 62 = .ok (.invokevirtual 111, 3) := by decide +kernel
theorem dX7_readHead_65 : decode cX7_readHead 65 = .ok (.putfield 126, 3) := by decide +kernel
theorem dX7_readHead_68 : decode cX7_readHead 68 = .ok (.aload_n 0, 1) := by decide +kernel
theorem dX7_readHead_69 : decode cX7_readHead 69 = .ok (.bipush 59, 2) := by decide +kernel
theorem dX7_readHead_71 : decode cX7_readHead 71 = .ok (.invokevirtual 131, 3) := by decide +kernel
theorem dX7_readHead_74 : decode cX7_readHead 74 = .ok (.aload_n 0, 1) := by decide +kernel
theorem dX7_readHead_75 : decode cX7_readHead 75 = .ok (.getfield 19, 3) := by decide +kernel
theorem dX7_readHead_78 : decode cX7_readHead 78 = .ok (.iconst 1, 1) := by decide +kernel
theorem dX7_readHead_79 : decode cX7_readHead 79 = .ok (.putfield 135, 3) := by decide +kernel
theorem dX7_readHead_82 : decode cX7_readHead 82 = .ok (.return_, 1) := by decide +kernel
def f_X7_readHead   (m : zz_Mem) : Option zz_Mem :=
  zz_bndR (f_X7_takeWord 1 m) fun m1 =>
  zz_bndR (f_X7_takeWord 2 m1) fun m2 =>
  zz_bnd (f_X7_takeNumber (0 : Int32) (6 : Int32) m2) fun r3 m4 =>
  zz_letM (zz_setI m4 16 0 r3) fun m5 =>
  zz_bndR (f_X7_takeWord 3 m5) fun m6 =>
  zz_bnd (f_X7_takeNumber (0 : Int32) (1 : Int32) m6) fun r7 m8 =>
  zz_letM (zz_setI m8 16 1 r7) fun m9 =>
  zz_bndR (f_X7_takeWord 4 m9) fun m10 =>
  zz_bnd (f_X7_takeNumber (0 : Int32) (9 : Int32) m10) fun r11 m12 =>
  zz_letM (zz_setI m12 27 2 r11) fun m13 =>
  zz_bndR (f_X7_takeSign (59 : Int32) m13) fun m14 =>
  zz_letM (zz_setI m14 16 2 (1 : Int32)) fun m15 =>
  some m15
theorem k_X7_readHead {l : Launch} {G : zz_G} (hN : 107 ≤ zz_N G) : ∀ (m : zz_Mem), zz_Con zz_sh l G mX7_readHead 6 [.ref (zz_a G 30)] zz_vV zz_mV (f_X7_readHead m) m := by
  intro m
  refine zz_con (lv := [(0, .ref (zz_a G 30))]) (by decide +kernel) (Nat.le_of_ble_eq_true rfl) rfl ?_
  unfold f_X7_readHead
  refine zs_aload_n dX7_readHead_0 rfl 0 rfl ?_
  refine zs_ldcS (w := 1) dX7_readHead_1 (by decide +kernel) ?_
  refine zs_cV_vW (rest := []) (k_X7_takeWord hN (Nat.le_of_ble_eq_true rfl)  _) dX7_readHead_3 lv_X7_105 ok_X7_takeWord (zz_rcv_o (sh_30 hN) rfl) (Nat.le_of_ble_eq_true rfl) rfl rfl (Nat.le_of_ble_eq_true rfl) (fun m1 => ?_)
  refine zs_aload_n dX7_readHead_6 rfl 0 rfl ?_
  refine zs_ldcS (w := 2) dX7_readHead_7 (by decide +kernel) ?_
  refine zs_cV_vW (rest := []) (k_X7_takeWord hN (Nat.le_of_ble_eq_true rfl)  _) dX7_readHead_9 lv_X7_105 ok_X7_takeWord (zz_rcv_o (sh_30 hN) rfl) (Nat.le_of_ble_eq_true rfl) rfl rfl (Nat.le_of_ble_eq_true rfl) (fun m2 => ?_)
  refine zs_aload_n dX7_readHead_12 rfl 0 rfl ?_
  refine zs_getR fl_X7_19 dX7_readHead_13 (sh_30 hN) rfl ?_
  refine zs_aload_n dX7_readHead_16 rfl 0 rfl ?_
  refine zs_iconst (v := (0 : Int32)) dX7_readHead_17 ci_0 ?_
  refine zs_bipush (v := (6 : Int32)) dX7_readHead_18 cb_6 ?_
  refine zs_cV_iW (rest := [.ref (zz_a G 16)]) (k_X7_takeNumber hN _ _ _) dX7_readHead_20 lv_X7_111 ok_X7_takeNumber (zz_rcv_o (sh_30 hN) rfl) (Nat.le_of_ble_eq_true rfl) rfl rfl (Nat.le_of_ble_eq_true rfl) (fun r3 m4 => ?_)
  refine zs_putI fl_X7_114 dX7_readHead_23 (sh_16 hN) rfl ⟨rfl, rfl⟩ (fun m5 => ?_)
  refine zs_aload_n dX7_readHead_26 rfl 0 rfl ?_
  refine zs_ldcS (w := 3) dX7_readHead_27 (by decide +kernel) ?_
  refine zs_cV_vW (rest := []) (k_X7_takeWord hN (Nat.le_of_ble_eq_true rfl)  _) dX7_readHead_29 lv_X7_105 ok_X7_takeWord (zz_rcv_o (sh_30 hN) rfl) (Nat.le_of_ble_eq_true rfl) rfl rfl (Nat.le_of_ble_eq_true rfl) (fun m6 => ?_)
  refine zs_aload_n dX7_readHead_32 rfl 0 rfl ?_
  refine zs_getR fl_X7_19 dX7_readHead_33 (sh_30 hN) rfl ?_
  refine zs_aload_n dX7_readHead_36 rfl 0 rfl ?_
  refine zs_iconst (v := (0 : Int32)) dX7_readHead_37 ci_0 ?_
  refine zs_iconst (v := (1 : Int32)) dX7_readHead_38 ci_1 ?_
  refine zs_cV_iW (rest := [.ref (zz_a G 16)]) (k_X7_takeNumber hN _ _ _) dX7_readHead_39 lv_X7_111 ok_X7_takeNumber (zz_rcv_o (sh_30 hN) rfl) (Nat.le_of_ble_eq_true rfl) rfl rfl (Nat.le_of_ble_eq_true rfl) (fun r7 m8 => ?_)
  refine zs_putI fl_X7_118 dX7_readHead_42 (sh_16 hN) rfl ⟨rfl, rfl⟩ (fun m9 => ?_)
  refine zs_aload_n dX7_readHead_45 rfl 0 rfl ?_
  refine zs_ldcS (w := 4) dX7_readHead_46 (by decide +kernel) ?_
  refine zs_cV_vW (rest := []) (k_X7_takeWord hN (Nat.le_of_ble_eq_true rfl)  _) dX7_readHead_48 lv_X7_105 ok_X7_takeWord (zz_rcv_o (sh_30 hN) rfl) (Nat.le_of_ble_eq_true rfl) rfl rfl (Nat.le_of_ble_eq_true rfl) (fun m10 => ?_)
  refine zs_aload_n dX7_readHead_51 rfl 0 rfl ?_
  refine zs_getR fl_X7_19 dX7_readHead_52 (sh_30 hN) rfl ?_
  refine zs_getR fl_X7_122 dX7_readHead_55 (sh_16 hN) rfl ?_
  refine zs_aload_n dX7_readHead_58 rfl 0 rfl ?_
  refine zs_iconst (v := (0 : Int32)) dX7_readHead_59 ci_0 ?_
  refine zs_bipush (v := (9 : Int32)) dX7_readHead_60 cb_9 ?_
  refine zs_cV_iW (rest := [.ref (zz_a G 27)]) (k_X7_takeNumber hN _ _ _) dX7_readHead_62 lv_X7_111 ok_X7_takeNumber (zz_rcv_o (sh_30 hN) rfl) (Nat.le_of_ble_eq_true rfl) rfl rfl (Nat.le_of_ble_eq_true rfl) (fun r11 m12 => ?_)
  refine zs_putI fl_X7_126 dX7_readHead_65 (sh_27 hN) rfl ⟨rfl, rfl⟩ (fun m13 => ?_)
  refine zs_aload_n dX7_readHead_68 rfl 0 rfl ?_
  refine zs_bipush (v := (59 : Int32)) dX7_readHead_69 cb_59 ?_
  refine zs_cV_vW (rest := []) (k_X7_takeSign hN _ _) dX7_readHead_71 lv_X7_131 ok_X7_takeSign (zz_rcv_o (sh_30 hN) rfl) (Nat.le_of_ble_eq_true rfl) rfl rfl (Nat.le_of_ble_eq_true rfl) (fun m14 => ?_)
  refine zs_aload_n dX7_readHead_74 rfl 0 rfl ?_
  refine zs_getR fl_X7_19 dX7_readHead_75 (sh_30 hN) rfl ?_
  refine zs_iconst (v := (1 : Int32)) dX7_readHead_78 ci_1 ?_
  refine zs_putI fl_X7_135 dX7_readHead_79 (sh_16 hN) rfl ⟨rfl, rfl⟩ (fun m15 => ?_)
  exact zs_vret dX7_readHead_82 rfl rfl rfl
/-! X7_readHoliday: PillarDesk$Reader.readHoliday()V -/
theorem dX7_readHoliday_0 : decode cX7_readHoliday 0 = .ok (.aload_n 0, 1) := by decide +kernel
theorem dX7_readHoliday_1 : decode cX7_readHoliday 1 = .ok (.getfield 19, 3) := by decide +kernel
theorem dX7_readHoliday_4 : decode cX7_readHoliday 4 = .ok (.getfield 167, 3) := by decide +kernel
theorem dX7_readHoliday_7 : decode cX7_readHoliday 7 = .ok (.istore_n 1, 1) := by decide +kernel
theorem dX7_readHoliday_8 : decode cX7_readHoliday 8 = .ok (.iload_n 1, 1) := by decide +kernel
theorem dX7_readHoliday_9 : decode cX7_readHoliday 9 = .ok (.bipush 12, 2) := by decide +kernel
theorem dX7_readHoliday_11 : decode cX7_readHoliday 11 = .ok (.if_icmp .lt 9, 3) := by decide +kernel
theorem dX7_readHoliday_14 : decode cX7_readHoliday 14 = .ok (.aload_n 0, 1) := by decide +kernel
theorem dX7_readHoliday_15 : decode cX7_readHoliday 15 = .ok (.iconst 4, 1) := by decide +kernel
theorem dX7_readHoliday_16 : decode cX7_readHoliday 16 = .ok (.invokevirtual 85, 3) := by decide +kernel
theorem dX7_readHoliday_19 : decode cX7_readHoliday 19 = .ok (.return_, 1) := by decide +kernel
theorem dX7_readHoliday_20 : decode cX7_readHoliday 20 = .ok (.aload_n 0, 1) := by decide +kernel
theorem dX7_readHoliday_21 : decode cX7_readHoliday 21 = .ok (.invokevirtual 46, 3) := by decide +kernel
theorem dX7_readHoliday_24 : decode cX7_readHoliday 24 = .ok (.aload_n 0, 1) := by decide +kernel
theorem dX7_readHoliday_25 : decode cX7_readHoliday 25 = .ok (.getfield 19, 3) := by decide +kernel
theorem dX7_readHoliday_28 : decode cX7_readHoliday 28 = .ok (.getfield 170, 3) := by decide +kernel
theorem dX7_readHoliday_31 : decode cX7_readHoliday 31 = .ok (.iload_n 1, 1) := by decide +kernel
theorem dX7_readHoliday_32 : decode cX7_readHoliday 32 = .ok (.aload_n 0, 1) := by decide +kernel
theorem dX7_readHoliday_33 : decode cX7_readHoliday 33 = .ok (.iconst 0, 1) := by decide +kernel
theorem dX7_readHoliday_34 : decode cX7_readHoliday 34 = .ok (.sipush 999, 3) := by decide +kernel
theorem dX7_readHoliday_37 : decode cX7_readHoliday 37 = .ok (.invokevirtual 111, 3) := by decide +kernel
theorem dX7_readHoliday_40 : decode cX7_readHoliday 40 = .ok (.iastore, 1) := by decide +kernel
theorem dX7_readHoliday_41 : decode cX7_readHoliday 41 = .ok (.aload_n 0, 1) := by decide +kernel
theorem dX7_readHoliday_42 : decode cX7_readHoliday 42 = .ok (.getfield 19, 3) := by decide +kernel
theorem dX7_readHoliday_45 : decode cX7_readHoliday 45 = .ok (.iload_n 1, 1) := by decide +kernel
theorem dX7_readHoliday_46 : decode cX7_readHoliday 46 = .ok (.iconst 1, 1) := by decide +kernel
theorem dX7_readHoliday_47 : decode cX7_readHoliday 47 = .ok (.iadd, 1) := by decide +kernel
theorem dX7_readHoliday_48 : decode cX7_readHoliday 48 = .ok (.putfield 167, 3) := by decide +kernel
theorem dX7_readHoliday_51 : decode cX7_readHoliday 51 = .ok (.return_, 1) := by decide +kernel
def f_X7_readHoliday   (m : zz_Mem) : Option zz_Mem :=
  zz_letI (m.1 16 3) fun x1 =>
  if x1 < (12 : Int32) then (
  zz_bndR (f_X7_next m) fun m2 =>
  zz_bnd (f_X7_takeNumber (0 : Int32) (999 : Int32) m2) fun r3 m4 =>
  zz_ix x1 12 <| zz_letM (zz_setI m4 17 x1.toNatClampNeg r3) fun m5 =>
  zz_letM (zz_setI m5 16 3 (x1 + (1 : Int32))) fun m6 =>
  some m6)
  else (
  zz_bndR (f_X7_fail (4 : Int32) m) fun m7 =>
  some m7)
theorem k_X7_readHoliday {l : Launch} {G : zz_G} (hN : 107 ≤ zz_N G) : ∀ (m : zz_Mem), zz_Con zz_sh l G mX7_readHoliday 6 [.ref (zz_a G 30)] zz_vV zz_mV (f_X7_readHoliday m) m := by
  intro m
  refine zz_con (lv := [(0, .ref (zz_a G 30))]) (by decide +kernel) (Nat.le_of_ble_eq_true rfl) rfl ?_
  unfold f_X7_readHoliday
  refine zs_aload_n dX7_readHoliday_0 rfl 0 rfl ?_
  refine zs_getR fl_X7_19 dX7_readHoliday_1 (sh_30 hN) rfl ?_
  refine zs_getI fl_X7_167 dX7_readHoliday_4 (sh_16 hN) rfl ?_
  refine zs_letI (fun x1 => ?_)
  refine zs_istore_n [(1, .int x1), (0, .ref (zz_a G 30))] dX7_readHoliday_7 rfl (Nat.le_of_ble_eq_true rfl) rfl ?_
  refine zs_iload_n dX7_readHoliday_8 rfl 0 rfl ?_
  refine zs_bipush (v := (12 : Int32)) dX7_readHoliday_9 cb_12 ?_
  refine zs_icmp_lt (tgt := 20) dX7_readHoliday_11 (by decide) ?_ ?_
  · refine zs_aload_n dX7_readHoliday_20 rfl 1 rfl ?_
    refine zs_cV_vW (rest := []) (k_X7_next hN  _) dX7_readHoliday_21 lv_X7_46 ok_X7_next (zz_rcv_o (sh_30 hN) rfl) (Nat.le_of_ble_eq_true rfl) rfl rfl (Nat.le_of_ble_eq_true rfl) (fun m2 => ?_)
    refine zs_aload_n dX7_readHoliday_24 rfl 1 rfl ?_
    refine zs_getR fl_X7_19 dX7_readHoliday_25 (sh_30 hN) rfl ?_
    refine zs_getR fl_X7_170 dX7_readHoliday_28 (sh_16 hN) rfl ?_
    refine zs_iload_n dX7_readHoliday_31 rfl 0 rfl ?_
    refine zs_aload_n dX7_readHoliday_32 rfl 1 rfl ?_
    refine zs_iconst (v := (0 : Int32)) dX7_readHoliday_33 ci_0 ?_
    refine zs_sipush (v := (999 : Int32)) dX7_readHoliday_34 cs_999 ?_
    refine zs_cV_iW (rest := [.int x1, .ref (zz_a G 17)]) (k_X7_takeNumber hN _ _ _) dX7_readHoliday_37 lv_X7_111 ok_X7_takeNumber (zz_rcv_o (sh_30 hN) rfl) (Nat.le_of_ble_eq_true rfl) rfl rfl (Nat.le_of_ble_eq_true rfl) (fun r3 m4 => ?_)
    refine zs_iastG dX7_readHoliday_40 (sh_17 hN) (fun m5 => ?_)
    refine zs_aload_n dX7_readHoliday_41 rfl 1 rfl ?_
    refine zs_getR fl_X7_19 dX7_readHoliday_42 (sh_30 hN) rfl ?_
    refine zs_iload_n dX7_readHoliday_45 rfl 0 rfl ?_
    refine zs_iconst (v := (1 : Int32)) dX7_readHoliday_46 ci_1 ?_
    refine zs_iadd dX7_readHoliday_47 ?_
    refine zs_putI fl_X7_167 dX7_readHoliday_48 (sh_16 hN) rfl ⟨rfl, rfl⟩ (fun m6 => ?_)
    exact zs_vret dX7_readHoliday_51 rfl rfl rfl
  · refine zs_aload_n dX7_readHoliday_14 rfl 1 rfl ?_
    refine zs_iconst (v := (4 : Int32)) dX7_readHoliday_15 ci_4 ?_
    refine zs_cV_vW (rest := []) (k_X7_fail hN _ _) dX7_readHoliday_16 lv_X7_85 ok_X7_fail (zz_rcv_o (sh_30 hN) rfl) (Nat.le_of_ble_eq_true rfl) rfl rfl (Nat.le_of_ble_eq_true rfl) (fun m7 => ?_)
    exact zs_vret dX7_readHoliday_19 rfl rfl rfl
/-! X7_readInput: PillarDesk$Reader.readInput(I)V -/
theorem dX7_readInput_0 : decode cX7_readInput 0 = .ok (.aload_n 0, 1) := by decide +kernel
theorem dX7_readInput_1 : decode cX7_readInput 1 = .ok (.getfield 19, 3) := by decide +kernel
theorem dX7_readInput_4 : decode cX7_readInput 4 = .ok (.getfield 174, 3) := by decide +kernel
theorem dX7_readInput_7 : decode cX7_readInput 7 = .ok (.istore_n 2, 1) := by decide +kernel
theorem dX7_readInput_8 : decode cX7_readInput 8 = .ok (.iload_n 2, 1) := by decide +kernel
theorem dX7_readInput_9 : decode cX7_readInput 9 = .ok (.bipush 8, 2) := by decide +kernel
theorem dX7_readInput_11 : decode cX7_readInput 11 = .ok (.if_icmp .lt 9, 3) := by decide +kernel
theorem dX7_readInput_14 : decode cX7_readInput 14 = .ok (.aload_n 0, 1) := by decide +kernel
theorem dX7_readInput_15 : decode cX7_readInput 15 = .ok (.iconst 4, 1) := by decide +kernel
theorem dX7_readInput_16 : decode cX7_readInput 16 = .ok (.invokevirtual 85, 3) := by decide +kernel
theorem dX7_readInput_19 : decode cX7_readInput 19 = .ok (.return_, 1) := by decide +kernel
theorem dX7_readInput_20 : decode cX7_readInput 20 = .ok (.aload_n 0, 1) := by decide +kernel
theorem dX7_readInput_21 : decode cX7_readInput 21 = .ok (.invokevirtual 46, 3) := by decide +kernel
theorem dX7_readInput_24 : decode cX7_readInput 24 = .ok (.aload_n 0, 1) := by decide +kernel
theorem dX7_readInput_25 : decode cX7_readInput 25 = .ok (.getfield 19, 3) := by decide +kernel
theorem dX7_readInput_28 : decode cX7_readInput 28 = .ok (.getfield 177, 3) := by decide +kernel
theorem dX7_readInput_31 : decode cX7_readInput 31 = .ok (.iload_n 2, 1) := by decide +kernel
theorem dX7_readInput_32 : decode cX7_readInput 32 = .ok (.iload_n 1, 1) := by decide +kernel
theorem dX7_readInput_33 : decode cX7_readInput 33 = .ok (.iastore, 1) := by decide +kernel
theorem dX7_readInput_34 : decode cX7_readInput 34 = .ok (.aload_n 0, 1) := by decide +kernel
theorem dX7_readInput_35 : decode cX7_readInput 35 = .ok (.getfield 19, 3) := by decide +kernel
theorem dX7_readInput_38 : decode cX7_readInput 38 = .ok (.getfield 180, 3) := by decide +kernel
theorem dX7_readInput_41 : decode cX7_readInput 41 = .ok (.iload_n 2, 1) := by decide +kernel
theorem dX7_readInput_42 : decode cX7_readInput 42 = .ok (.iload_n 1, 1) := by decide +kernel
theorem dX7_readInput_43 : decode cX7_readInput 43 = .ok (.iconst 1, 1) := by decide +kernel
theorem dX7_readInput_44 : decode cX7_readInput 44 = .ok (.if_icmp .ne 14, 3) := by decide +kernel
theorem dX7_readInput_47 : decode cX7_readInput 47 = .ok (.aload_n 0, 1) := by decide +kernel
theorem dX7_readInput_48 : decode cX7_readInput 48 = .ok (.iconst 0, 1) := by decide +kernel
theorem dX7_readInput_49 : decode cX7_readInput 49 = .ok (.sipush 998, 3) := by decide +kernel
theorem dX7_readInput_52 : decode cX7_readInput 52 = .ok (.invokevirtual 111, 3) := by decide +kernel
theorem dX7_readInput_55 : decode cX7_readInput 55 = .ok (.goto 4, 3) := by decide +kernel
theorem dX7_readInput_58 : decode cX7_readInput 58 = .ok (.iconst 0, 1) := by decide +kernel
theorem dX7_readInput_59 : decode cX7_readInput 59 = .ok (.iastore, 1) := by decide +kernel
theorem dX7_readInput_60 : decode cX7_readInput 60 = .ok (.aload_n 0, 1) := by decide +kernel
theorem dX7_readInput_61 : decode cX7_readInput 61 = .ok (.getfield 19, 3) := by decide +kernel
theorem dX7_readInput_64 : decode cX7_readInput 64 = .ok (.getfield 183, 3) := by decide +kernel
theorem dX7_readInput_67 : decode cX7_readInput 67 = .ok (.iload_n 2, 1) := by decide +kernel
theorem dX7_readInput_68 : decode cX7_readInput 68 = .ok (.aload_n 0, 1) := by decide +kernel
theorem dX7_readInput_69 : decode cX7_readInput 69 = .ok (.aload_n 0, 1) := by decide +kernel
theorem dX7_readInput_70 : decode cX7_readInput 70 = .ok (.getfield 19, 3) := by decide +kernel
theorem dX7_readInput_73 : decode cX7_readInput 73 = .ok (.getfield 180, 3) := by decide +kernel
theorem dX7_readInput_76 : decode cX7_readInput 76 = .ok (.iload_n 2, 1) := by decide +kernel
theorem dX7_readInput_77 : decode cX7_readInput 77 = .ok (.iaload, 1) := by decide +kernel
theorem dX7_readInput_78 : decode cX7_readInput 78 = .ok (.iconst 1, 1) := by decide +kernel
theorem dX7_readInput_79 : decode cX7_readInput 79 = .ok (.iadd, 1) := by decide +kernel
theorem dX7_readInput_80 : decode cX7_readInput 80 = .ok (.sipush 999, 3) := by decide +kernel
theorem dX7_readInput_83 : decode cX7_readInput 83 = .ok (.invokevirtual 111, 3) := by decide +kernel
theorem dX7_readInput_86 : decode cX7_readInput 86 = .ok (.iastore, 1) := by decide +kernel
theorem dX7_readInput_87 : decode cX7_readInput 87 = .ok (.aload_n 0, 1) := by decide +kernel
theorem dX7_readInput_88 : decode cX7_readInput 88 = .ok (.getfield 19, 3) := by decide +kernel
theorem dX7_readInput_91 : decode cX7_readInput 91 = .ok (.getfield 186, 3) := by decide +kernel
theorem dX7_readInput_94 : decode cX7_readInput 94 = .ok (.iload_n 2, 1) := by decide +kernel
theorem dX7_readInput_95 : decode cX7_readInput 95 = .ok (.iconst 0, 1) := by decide +kernel
theorem dX7_readInput_96 : decode cX7_readInput 96 = .ok (.iastore, 1) := by decide +kernel
theorem dX7_readInput_97 : decode cX7_readInput 97 = .ok (.iload_n 1, 1) := by decide +kernel
theorem dX7_readInput_98 : decode cX7_readInput 98 = .ok (.iconst 2, 1) := by decide +kernel
theorem dX7_readInput_99 : decode cX7_readInput 99 = .ok (.if_icmp .ne 27, 3) := by decide +kernel
theorem dX7_readInput_102 : decode cX7_readInput 102 = .ok (.aload_n 0, 1) := by decide +kernel
theorem dX7_readInput_103 : decode cX7_readInput 103 = .ok (.ldc 189, 2) := by decide +kernel
theorem dX7_readInput_105 : decode cX7_readInput 105 = .ok (.invokevirtual 105, 3) := by decide +kernel
theorem dX7_readInput_108 : decode cX7_readInput 108 = .ok (.aload_n 0, 1) := by decide +kernel
theorem dX7_readInput_109 : decode cX7_readInput 109 = .ok (.getfield 19, 3) := by decide +kernel
theorem dX7_readInput_112 : decode cX7_readInput 112 = .ok (.getfield 186, 3) := by decide +kernel
theorem dX7_readInput_115 : decode cX7_readInput 115 = .ok (.iload_n 2, 1) := by decide +kernel
theorem dX7_readInput_116 : decode cX7_readInput 116 = .ok (.aload_n 0, 1) := by decide +kernel
theorem dX7_readInput_117 : decode cX7_readInput 117 = .ok (.bipush 30, 2) := by decide +kernel
theorem dX7_readInput_119 : decode cX7_readInput 119 = .ok (.sipush 999, 3) := by decide +kernel
theorem dX7_readInput_122 : decode cX7_readInput 122 = .ok (.invokevirtual 111, 3) := by decide +kernel
theorem dX7_readInput_125 : decode cX7_readInput 125 = .ok (.iastore, 1) := by decide +kernel
theorem dX7_readInput_126 : decode cX7_readInput 126 = .ok (.aload_n 0, 1) := by decide +kernel
theorem dX7_readInput_127 : decode cX7_readInput 127 = .ok (.ldc 191, 2) := by decide +kernel
theorem dX7_readInput_129 : decode cX7_readInput 129 = .ok (.invokevirtual 105, 3) := by decide +kernel
theorem dX7_readInput_132 : decode cX7_readInput 132 = .ok (.aload_n 0, 1) := by decide +kernel
theorem dX7_readInput_133 : decode cX7_readInput 133 = .ok (.getfield 19, 3) := by decide +kernel
theorem dX7_readInput_136 : decode cX7_readInput 136 = .ok (.getfield 122, 3) := by decide +kernel
theorem dX7_readInput_139 : decode cX7_readInput 139 = .ok (.getfield 193, 3) := by decide +kernel
theorem dX7_readInput_142 : decode cX7_readInput 142 = .ok (.iload_n 2, 1) := by decide +kernel
theorem dX7_readInput_143 : decode cX7_readInput 143 = .ok (.aload_n 0, 1) := by decide +kernel
theorem dX7_readInput_144 : decode cX7_readInput 144 = .ok (.iconst 0, 1) := by decide +kernel
theorem dX7_readInput_145 : decode cX7_readInput 145 = .ok (.sipush 999, 3) := by decide +kernel
theorem dX7_readInput_148 : decode cX7_readInput 148 = .ok (.invokevirtual 111, 3) := by decide +kernel
theorem dX7_readInput_151 : decode cX7_readInput 151 = .ok (.iastore, 1) := by decide +kernel
theorem dX7_readInput_152 : decode cX7_readInput 152 = .ok (.aload_n 0, 1) := by decide +kernel
theorem dX7_readInput_153 : decode cX7_readInput 153 = .ok (.getfield 19, 3) := by decide +kernel
theorem dX7_readInput_156 : decode cX7_readInput 156 = .ok (.iload_n 2, 1) := by decide +kernel
theorem dX7_readInput_157 : decode cX7_readInput 157 = .ok (.iconst 1, 1) := by decide +kernel
theorem dX7_readInput_158 : decode cX7_readInput 158 = .ok (.iadd, 1) := by decide +kernel
theorem dX7_readInput_159 : decode cX7_readInput 159 = .ok (.putfield 174, 3) := by decide +kernel
theorem dX7_readInput_162 : decode cX7_readInput 162 = .ok (.return_, 1) := by decide +kernel
def f_X7_readInput_126   (v2 : Int32) (m : zz_Mem) : Option zz_Mem :=
  zz_bndR (f_X7_takeWord 8 m) fun m1 =>
  zz_bnd (f_X7_takeNumber (0 : Int32) (999 : Int32) m1) fun r2 m3 =>
  zz_ix v2 8 <| zz_letM (zz_setI m3 28 v2.toNatClampNeg r2) fun m4 =>
  zz_letM (zz_setI m4 16 5 (v2 + (1 : Int32))) fun m5 =>
  some m5
theorem t_X7_readInput_126 {l : Launch} {G : zz_G} (hN : 107 ≤ zz_N G)  : ∀ (v2 : Int32) (m : zz_Mem), zz_Sim zz_sh l G mX7_readInput 6 zz_vV zz_mV (f_X7_readInput_126 v2 m) 126 [(0, .ref (zz_a G 30)), (2, .int v2)] [] m := by
  intro v2 m
  unfold f_X7_readInput_126
  refine zs_aload_n dX7_readInput_126 rfl 0 rfl ?_
  refine zs_ldcS (w := 8) dX7_readInput_127 (by decide +kernel) ?_
  refine zs_cV_vW (rest := []) (k_X7_takeWord hN (Nat.le_of_ble_eq_true rfl)  _) dX7_readInput_129 lv_X7_105 ok_X7_takeWord (zz_rcv_o (sh_30 hN) rfl) (Nat.le_of_ble_eq_true rfl) rfl rfl (Nat.le_of_ble_eq_true rfl) (fun m1 => ?_)
  refine zs_aload_n dX7_readInput_132 rfl 0 rfl ?_
  refine zs_getR fl_X7_19 dX7_readInput_133 (sh_30 hN) rfl ?_
  refine zs_getR fl_X7_122 dX7_readInput_136 (sh_16 hN) rfl ?_
  refine zs_getR fl_X7_193 dX7_readInput_139 (sh_27 hN) rfl ?_
  refine zs_iload_n dX7_readInput_142 rfl 1 rfl ?_
  refine zs_aload_n dX7_readInput_143 rfl 0 rfl ?_
  refine zs_iconst (v := (0 : Int32)) dX7_readInput_144 ci_0 ?_
  refine zs_sipush (v := (999 : Int32)) dX7_readInput_145 cs_999 ?_
  refine zs_cV_iW (rest := [.int v2, .ref (zz_a G 28)]) (k_X7_takeNumber hN _ _ _) dX7_readInput_148 lv_X7_111 ok_X7_takeNumber (zz_rcv_o (sh_30 hN) rfl) (Nat.le_of_ble_eq_true rfl) rfl rfl (Nat.le_of_ble_eq_true rfl) (fun r2 m3 => ?_)
  refine zs_iastG dX7_readInput_151 (sh_28 hN) (fun m4 => ?_)
  refine zs_aload_n dX7_readInput_152 rfl 0 rfl ?_
  refine zs_getR fl_X7_19 dX7_readInput_153 (sh_30 hN) rfl ?_
  refine zs_iload_n dX7_readInput_156 rfl 1 rfl ?_
  refine zs_iconst (v := (1 : Int32)) dX7_readInput_157 ci_1 ?_
  refine zs_iadd dX7_readInput_158 ?_
  refine zs_putI fl_X7_174 dX7_readInput_159 (sh_16 hN) rfl ⟨rfl, rfl⟩ (fun m5 => ?_)
  exact zs_vret dX7_readInput_162 rfl rfl rfl
def f_X7_readInput_59   (v1 : Int32) (v2 : Int32) (s0 : Int32) (s1 : Int32) (m : zz_Mem) : Option zz_Mem :=
  zz_ix s1 8 <| zz_letM (zz_setI m 19 s1.toNatClampNeg s0) fun m1 =>
  zz_ix v2 8 <|
  zz_bnd (f_X7_takeNumber ((m1.1 19 v2.toNatClampNeg) + (1 : Int32)) (999 : Int32) m1) fun r2 m3 =>
  zz_ix v2 8 <| zz_letM (zz_setI m3 20 v2.toNatClampNeg r2) fun m4 =>
  zz_ix v2 8 <| zz_letM (zz_setI m4 21 v2.toNatClampNeg (0 : Int32)) fun m5 =>
  if v1 = (2 : Int32) then (
  zz_bndR (f_X7_takeWord 7 m5) fun m6 =>
  zz_bnd (f_X7_takeNumber (30 : Int32) (999 : Int32) m6) fun r7 m8 =>
  zz_ix v2 8 <| zz_letM (zz_setI m8 21 v2.toNatClampNeg r7) fun m9 =>
  f_X7_readInput_126 v2 m9)
  else (
  f_X7_readInput_126 v2 m5)
theorem t_X7_readInput_59 {l : Launch} {G : zz_G} (hN : 107 ≤ zz_N G)  : ∀ (v1 : Int32) (v2 : Int32) (s0 : Int32) (s1 : Int32) (m : zz_Mem), zz_Sim zz_sh l G mX7_readInput 6 zz_vV zz_mV (f_X7_readInput_59 v1 v2 s0 s1 m) 59 [(0, .ref (zz_a G 30)), (1, .int v1), (2, .int v2)] [.int s0, .int s1, .ref (zz_a G 19)] m := by
  intro v1 v2 s0 s1 m
  unfold f_X7_readInput_59
  refine zs_iastG dX7_readInput_59 (sh_19 hN) (fun m1 => ?_)
  refine zs_aload_n dX7_readInput_60 rfl 0 rfl ?_
  refine zs_getR fl_X7_19 dX7_readInput_61 (sh_30 hN) rfl ?_
  refine zs_getR fl_X7_183 dX7_readInput_64 (sh_16 hN) rfl ?_
  refine zs_iload_n dX7_readInput_67 rfl 2 rfl ?_
  refine zs_aload_n dX7_readInput_68 rfl 0 rfl ?_
  refine zs_aload_n dX7_readInput_69 rfl 0 rfl ?_
  refine zs_getR fl_X7_19 dX7_readInput_70 (sh_30 hN) rfl ?_
  refine zs_getR fl_X7_180 dX7_readInput_73 (sh_16 hN) rfl ?_
  refine zs_iload_n dX7_readInput_76 rfl 2 rfl ?_
  refine zs_ialdG dX7_readInput_77 (sh_19 hN) ?_
  refine zs_iconst (v := (1 : Int32)) dX7_readInput_78 ci_1 ?_
  refine zs_iadd dX7_readInput_79 ?_
  refine zs_sipush (v := (999 : Int32)) dX7_readInput_80 cs_999 ?_
  refine zs_cV_iW (rest := [.int v2, .ref (zz_a G 20)]) (k_X7_takeNumber hN _ _ _) dX7_readInput_83 lv_X7_111 ok_X7_takeNumber (zz_rcv_o (sh_30 hN) rfl) (Nat.le_of_ble_eq_true rfl) rfl rfl (Nat.le_of_ble_eq_true rfl) (fun r2 m3 => ?_)
  refine zs_iastG dX7_readInput_86 (sh_20 hN) (fun m4 => ?_)
  refine zs_aload_n dX7_readInput_87 rfl 0 rfl ?_
  refine zs_getR fl_X7_19 dX7_readInput_88 (sh_30 hN) rfl ?_
  refine zs_getR fl_X7_186 dX7_readInput_91 (sh_16 hN) rfl ?_
  refine zs_iload_n dX7_readInput_94 rfl 2 rfl ?_
  refine zs_iconst (v := (0 : Int32)) dX7_readInput_95 ci_0 ?_
  refine zs_iastG dX7_readInput_96 (sh_21 hN) (fun m5 => ?_)
  refine zs_iload_n dX7_readInput_97 rfl 1 rfl ?_
  refine zs_iconst (v := (2 : Int32)) dX7_readInput_98 ci_2 ?_
  refine zs_icmp_ne (tgt := 126) dX7_readInput_99 (by decide) ?_ ?_
  · refine zs_sub [0, 2] rfl ?_
    exact t_X7_readInput_126 hN _ _
  · refine zs_aload_n dX7_readInput_102 rfl 0 rfl ?_
    refine zs_ldcS (w := 7) dX7_readInput_103 (by decide +kernel) ?_
    refine zs_cV_vW (rest := []) (k_X7_takeWord hN (Nat.le_of_ble_eq_true rfl)  _) dX7_readInput_105 lv_X7_105 ok_X7_takeWord (zz_rcv_o (sh_30 hN) rfl) (Nat.le_of_ble_eq_true rfl) rfl rfl (Nat.le_of_ble_eq_true rfl) (fun m6 => ?_)
    refine zs_aload_n dX7_readInput_108 rfl 0 rfl ?_
    refine zs_getR fl_X7_19 dX7_readInput_109 (sh_30 hN) rfl ?_
    refine zs_getR fl_X7_186 dX7_readInput_112 (sh_16 hN) rfl ?_
    refine zs_iload_n dX7_readInput_115 rfl 2 rfl ?_
    refine zs_aload_n dX7_readInput_116 rfl 0 rfl ?_
    refine zs_bipush (v := (30 : Int32)) dX7_readInput_117 cb_30 ?_
    refine zs_sipush (v := (999 : Int32)) dX7_readInput_119 cs_999 ?_
    refine zs_cV_iW (rest := [.int v2, .ref (zz_a G 21)]) (k_X7_takeNumber hN _ _ _) dX7_readInput_122 lv_X7_111 ok_X7_takeNumber (zz_rcv_o (sh_30 hN) rfl) (Nat.le_of_ble_eq_true rfl) rfl rfl (Nat.le_of_ble_eq_true rfl) (fun r7 m8 => ?_)
    refine zs_iastG dX7_readInput_125 (sh_21 hN) (fun m9 => ?_)
    refine zs_sub [0, 2] rfl ?_
    exact t_X7_readInput_126 hN _ _
def f_X7_readInput  (p1 : Int32) (m : zz_Mem) : Option zz_Mem :=
  zz_letI (m.1 16 5) fun x1 =>
  if x1 < (8 : Int32) then (
  zz_bndR (f_X7_next m) fun m2 =>
  zz_ix x1 8 <| zz_letM (zz_setI m2 18 x1.toNatClampNeg p1) fun m3 =>
  if p1 = (1 : Int32) then (
  zz_bnd (f_X7_takeNumber (0 : Int32) (998 : Int32) m3) fun r4 m5 =>
  f_X7_readInput_59 p1 x1 r4 x1 m5)
  else (
  f_X7_readInput_59 p1 x1 (0 : Int32) x1 m3))
  else (
  zz_bndR (f_X7_fail (4 : Int32) m) fun m6 =>
  some m6)
theorem k_X7_readInput {l : Launch} {G : zz_G} (hN : 107 ≤ zz_N G) : ∀ (p1 : Int32) (m : zz_Mem), zz_Con zz_sh l G mX7_readInput 6 [.ref (zz_a G 30), .int p1] zz_vV zz_mV (f_X7_readInput p1 m) m := by
  intro p1 m
  refine zz_con (lv := [(0, .ref (zz_a G 30)), (1, .int p1)]) (by decide +kernel) (Nat.le_of_ble_eq_true rfl) rfl ?_
  unfold f_X7_readInput
  refine zs_aload_n dX7_readInput_0 rfl 0 rfl ?_
  refine zs_getR fl_X7_19 dX7_readInput_1 (sh_30 hN) rfl ?_
  refine zs_getI fl_X7_174 dX7_readInput_4 (sh_16 hN) rfl ?_
  refine zs_letI (fun x1 => ?_)
  refine zs_istore_n [(2, .int x1), (0, .ref (zz_a G 30)), (1, .int p1)] dX7_readInput_7 rfl (Nat.le_of_ble_eq_true rfl) rfl ?_
  refine zs_iload_n dX7_readInput_8 rfl 0 rfl ?_
  refine zs_bipush (v := (8 : Int32)) dX7_readInput_9 cb_8 ?_
  refine zs_icmp_lt (tgt := 20) dX7_readInput_11 (by decide) ?_ ?_
  · refine zs_aload_n dX7_readInput_20 rfl 1 rfl ?_
    refine zs_cV_vW (rest := []) (k_X7_next hN  _) dX7_readInput_21 lv_X7_46 ok_X7_next (zz_rcv_o (sh_30 hN) rfl) (Nat.le_of_ble_eq_true rfl) rfl rfl (Nat.le_of_ble_eq_true rfl) (fun m2 => ?_)
    refine zs_aload_n dX7_readInput_24 rfl 1 rfl ?_
    refine zs_getR fl_X7_19 dX7_readInput_25 (sh_30 hN) rfl ?_
    refine zs_getR fl_X7_177 dX7_readInput_28 (sh_16 hN) rfl ?_
    refine zs_iload_n dX7_readInput_31 rfl 0 rfl ?_
    refine zs_iload_n dX7_readInput_32 rfl 2 rfl ?_
    refine zs_iastG dX7_readInput_33 (sh_18 hN) (fun m3 => ?_)
    refine zs_aload_n dX7_readInput_34 rfl 1 rfl ?_
    refine zs_getR fl_X7_19 dX7_readInput_35 (sh_30 hN) rfl ?_
    refine zs_getR fl_X7_180 dX7_readInput_38 (sh_16 hN) rfl ?_
    refine zs_iload_n dX7_readInput_41 rfl 0 rfl ?_
    refine zs_iload_n dX7_readInput_42 rfl 2 rfl ?_
    refine zs_iconst (v := (1 : Int32)) dX7_readInput_43 ci_1 ?_
    refine zs_icmp_ne (tgt := 58) dX7_readInput_44 (by decide) ?_ ?_
    · refine zs_iconst (v := (0 : Int32)) dX7_readInput_58 ci_0 ?_
      refine zs_sub [1, 2, 0] rfl ?_
      exact t_X7_readInput_59 hN _ _ _ _ _
    · refine zs_aload_n dX7_readInput_47 rfl 1 rfl ?_
      refine zs_iconst (v := (0 : Int32)) dX7_readInput_48 ci_0 ?_
      refine zs_sipush (v := (998 : Int32)) dX7_readInput_49 cs_998 ?_
      refine zs_cV_iW (rest := [.int x1, .ref (zz_a G 19)]) (k_X7_takeNumber hN _ _ _) dX7_readInput_52 lv_X7_111 ok_X7_takeNumber (zz_rcv_o (sh_30 hN) rfl) (Nat.le_of_ble_eq_true rfl) rfl rfl (Nat.le_of_ble_eq_true rfl) (fun r4 m5 => ?_)
      refine zs_goto (tgt := 59) dX7_readInput_55 (by decide) ?_
      refine zs_sub [1, 2, 0] rfl ?_
      exact t_X7_readInput_59 hN _ _ _ _ _
  · refine zs_aload_n dX7_readInput_14 rfl 1 rfl ?_
    refine zs_iconst (v := (4 : Int32)) dX7_readInput_15 ci_4 ?_
    refine zs_cV_vW (rest := []) (k_X7_fail hN _ _) dX7_readInput_16 lv_X7_85 ok_X7_fail (zz_rcv_o (sh_30 hN) rfl) (Nat.le_of_ble_eq_true rfl) rfl rfl (Nat.le_of_ble_eq_true rfl) (fun m6 => ?_)
    exact zs_vret dX7_readInput_19 rfl rfl rfl
/-! X7_readFlow: PillarDesk$Reader.readFlow()V -/
theorem dX7_readFlow_0 : decode cX7_readFlow 0 = .ok (.aload_n 0, 1) := by decide +kernel
theorem dX7_readFlow_1 : decode cX7_readFlow 1 = .ok (.getfield 19, 3) := by decide +kernel
theorem dX7_readFlow_4 : decode cX7_readFlow 4 = .ok (.getfield 195, 3) := by decide +kernel
theorem dX7_readFlow_7 : decode cX7_readFlow 7 = .ok (.istore_n 1, 1) := by decide +kernel
theorem dX7_readFlow_8 : decode cX7_readFlow 8 = .ok (.iload_n 1, 1) := by decide +kernel
theorem dX7_readFlow_9 : decode cX7_readFlow 9 = .ok (.bipush 10, 2) := by decide +kernel
theorem dX7_readFlow_11 : decode cX7_readFlow 11 = .ok (.if_icmp .lt 9, 3) := by decide +kernel
theorem dX7_readFlow_14 : decode cX7_readFlow 14 = .ok (.aload_n 0, 1) := by decide +kernel
theorem dX7_readFlow_15 : decode cX7_readFlow 15 = .ok (.iconst 4, 1) := by decide +kernel
theorem dX7_readFlow_16 : decode cX7_readFlow 16 = .ok (.invokevirtual 85, 3) := by decide +kernel
theorem dX7_readFlow_19 : decode cX7_readFlow 19 = .ok (.return_, 1) := by decide +kernel
theorem dX7_readFlow_20 : decode cX7_readFlow 20 = .ok (.aload_n 0, 1) := by decide +kernel
theorem dX7_readFlow_21 : decode cX7_readFlow 21 = .ok (.invokevirtual 46, 3) := by decide +kernel
theorem dX7_readFlow_24 : decode cX7_readFlow 24 = .ok (.aload_n 0, 1) := by decide +kernel
theorem dX7_readFlow_25 : decode cX7_readFlow 25 = .ok (.getfield 19, 3) := by decide +kernel
theorem dX7_readFlow_28 : decode cX7_readFlow 28 = .ok (.getfield 198, 3) := by decide +kernel
theorem dX7_readFlow_31 : decode cX7_readFlow 31 = .ok (.iload_n 1, 1) := by decide +kernel
theorem dX7_readFlow_32 : decode cX7_readFlow 32 = .ok (.aload_n 0, 1) := by decide +kernel
theorem dX7_readFlow_33 : decode cX7_readFlow 33 = .ok (.iconst 0, 1) := by decide +kernel
theorem dX7_readFlow_34 : decode cX7_readFlow 34 = .ok (.sipush 999, 3) := by decide +kernel
theorem dX7_readFlow_37 : decode cX7_readFlow 37 = .ok (.invokevirtual 111, 3) := by decide +kernel
theorem dX7_readFlow_40 : decode cX7_readFlow 40 = .ok (.iastore, 1) := by decide +kernel
theorem dX7_readFlow_41 : decode cX7_readFlow 41 = .ok (.aload_n 0, 1) := by decide +kernel
theorem dX7_readFlow_42 : decode cX7_readFlow 42 = .ok (.ldc 201, 2) := by decide +kernel
theorem dX7_readFlow_44 : decode cX7_readFlow 44 = .ok (.invokevirtual 99, 3) := by decide +kernel
theorem dX7_readFlow_47 : decode cX7_readFlow 47 = .ok (.istore_n 2, 1) := by decide +kernel
theorem dX7_readFlow_48 : decode cX7_readFlow 48 = .ok (.aload_n 0, 1) := by decide +kernel
theorem dX7_readFlow_49 : decode cX7_readFlow 49 = .ok (.iload_n 2, 1) := by decide +kernel
theorem dX7_readFlow_50 : decode cX7_readFlow 50 = .ok (.ifCond .eq 8, 3) := by decide +kernel
theorem dX7_readFlow_53 : decode cX7_readFlow 53 = .ok (.ldc 201, 2) := by decide +kernel
theorem dX7_readFlow_55 : decode cX7_readFlow 55 = .ok (.goto 5, 3) := by decide +kernel
theorem dX7_readFlow_58 : decode cX7_readFlow 58 = .ok (.ldc 203, 2) := by decide +kernel
theorem dX7_readFlow_60 : decode cX7_readFlow 60 = .ok (.invokevirtual 105, 3) := by decide +kernel
theorem dX7_readFlow_63 : decode cX7_readFlow 63 = .ok (.aload_n 0, 1) := by decide +kernel
theorem dX7_readFlow_64 : decode cX7_readFlow 64 = .ok (.iconst 0, 1) := by decide +kernel
theorem dX7_readFlow_65 : decode cX7_readFlow 65 = .ok (.sipush 999, 3) := by decide +kernel
theorem dX7_readFlow_68 : decode cX7_readFlow 68 = .ok (.invokevirtual 111, 3) := by decide +kernel
theorem dX7_readFlow_71 : decode cX7_readFlow 71 = .ok (.istore_n 3, 1) := by decide +kernel
theorem dX7_readFlow_72 : decode cX7_readFlow 72 = .ok (.aload_n 0, 1) := by decide +kernel
theorem dX7_readFlow_73 : decode cX7_readFlow 73 = .ok (.getfield 19, 3) := by decide +kernel
theorem dX7_readFlow_76 : decode cX7_readFlow 76 = .ok (.getfield 122, 3) := by decide +kernel
theorem dX7_readFlow_79 : decode cX7_readFlow 79 = .ok (.getfield 205, 3) := by decide +kernel
theorem dX7_readFlow_82 : decode cX7_readFlow 82 = .ok (.iload_n 1, 1) := by decide +kernel
theorem dX7_readFlow_83 : decode cX7_readFlow 83 = .ok (.iload_n 2, 1) := by decide +kernel
theorem dX7_readFlow_84 : decode cX7_readFlow 84 = .ok (.ifCond .eq 8, 3) := by decide +kernel
theorem dX7_readFlow_87 : decode cX7_readFlow 87 = .ok (.iload_n 3, 1) := by decide +kernel
theorem dX7_readFlow_88 : decode cX7_readFlow 88 = .ok (.ineg, 1) := by decide +kernel
theorem dX7_readFlow_89 : decode cX7_readFlow 89 = .ok (.goto 4, 3) := by decide +kernel
theorem dX7_readFlow_92 : decode cX7_readFlow 92 = .ok (.iload_n 3, 1) := by decide +kernel
theorem dX7_readFlow_93 : decode cX7_readFlow 93 = .ok (.iastore, 1) := by decide +kernel
theorem dX7_readFlow_94 : decode cX7_readFlow 94 = .ok (.aload_n 0, 1) := by decide +kernel
theorem dX7_readFlow_95 : decode cX7_readFlow 95 = .ok (.getfield 19, 3) := by decide +kernel
theorem dX7_readFlow_98 : decode cX7_readFlow 98 = .ok (.iload_n 1, 1) := by decide +kernel
theorem dX7_readFlow_99 : decode cX7_readFlow 99 = .ok (.iconst 1, 1) := by decide +kernel
theorem dX7_readFlow_100 : decode cX7_readFlow 100 = .ok (.iadd, 1) := by decide +kernel
theorem dX7_readFlow_101 : decode cX7_readFlow 101 = .ok (.putfield 195, 3) := by decide +kernel
theorem dX7_readFlow_104 : decode cX7_readFlow 104 = .ok (.return_, 1) := by decide +kernel
def f_X7_readFlow_93   (v1 : Int32) (s0 : Int32) (s1 : Int32) (m : zz_Mem) : Option zz_Mem :=
  zz_ix s1 10 <| zz_letM (zz_setI m 29 s1.toNatClampNeg s0) fun m1 =>
  zz_letM (zz_setI m1 16 10 (v1 + (1 : Int32))) fun m2 =>
  some m2
theorem t_X7_readFlow_93 {l : Launch} {G : zz_G} (hN : 107 ≤ zz_N G)  : ∀ (v1 : Int32) (s0 : Int32) (s1 : Int32) (m : zz_Mem), zz_Sim zz_sh l G mX7_readFlow 6 zz_vV zz_mV (f_X7_readFlow_93 v1 s0 s1 m) 93 [(0, .ref (zz_a G 30)), (1, .int v1)] [.int s0, .int s1, .ref (zz_a G 29)] m := by
  intro v1 s0 s1 m
  unfold f_X7_readFlow_93
  refine zs_iastG dX7_readFlow_93 (sh_29 hN) (fun m1 => ?_)
  refine zs_aload_n dX7_readFlow_94 rfl 0 rfl ?_
  refine zs_getR fl_X7_19 dX7_readFlow_95 (sh_30 hN) rfl ?_
  refine zs_iload_n dX7_readFlow_98 rfl 1 rfl ?_
  refine zs_iconst (v := (1 : Int32)) dX7_readFlow_99 ci_1 ?_
  refine zs_iadd dX7_readFlow_100 ?_
  refine zs_putI fl_X7_195 dX7_readFlow_101 (sh_16 hN) rfl ⟨rfl, rfl⟩ (fun m2 => ?_)
  exact zs_vret dX7_readFlow_104 rfl rfl rfl
def f_X7_readFlow   (m : zz_Mem) : Option zz_Mem :=
  zz_letI (m.1 16 10) fun x1 =>
  if x1 < (10 : Int32) then (
  zz_bndR (f_X7_next m) fun m2 =>
  zz_bnd (f_X7_takeNumber (0 : Int32) (999 : Int32) m2) fun r3 m4 =>
  zz_ix x1 10 <| zz_letM (zz_setI m4 22 x1.toNatClampNeg r3) fun m5 =>
  zz_bndR (f_X7_isWord 12 m5) fun r6 =>
  if r6 = 0 then (
  zz_bndR (f_X7_takeWord 13 m5) fun m7 =>
  zz_bnd (f_X7_takeNumber (0 : Int32) (999 : Int32) m7) fun r8 m9 =>
  if r6 = 0 then (
  f_X7_readFlow_93 x1 r8 x1 m9)
  else (
  f_X7_readFlow_93 x1 (-r8) x1 m9))
  else (
  zz_bndR (f_X7_takeWord 12 m5) fun m10 =>
  zz_bnd (f_X7_takeNumber (0 : Int32) (999 : Int32) m10) fun r11 m12 =>
  if r6 = 0 then (
  f_X7_readFlow_93 x1 r11 x1 m12)
  else (
  f_X7_readFlow_93 x1 (-r11) x1 m12)))
  else (
  zz_bndR (f_X7_fail (4 : Int32) m) fun m13 =>
  some m13)
theorem k_X7_readFlow {l : Launch} {G : zz_G} (hN : 107 ≤ zz_N G) : ∀ (m : zz_Mem), zz_Con zz_sh l G mX7_readFlow 6 [.ref (zz_a G 30)] zz_vV zz_mV (f_X7_readFlow m) m := by
  intro m
  refine zz_con (lv := [(0, .ref (zz_a G 30))]) (by decide +kernel) (Nat.le_of_ble_eq_true rfl) rfl ?_
  unfold f_X7_readFlow
  refine zs_aload_n dX7_readFlow_0 rfl 0 rfl ?_
  refine zs_getR fl_X7_19 dX7_readFlow_1 (sh_30 hN) rfl ?_
  refine zs_getI fl_X7_195 dX7_readFlow_4 (sh_16 hN) rfl ?_
  refine zs_letI (fun x1 => ?_)
  refine zs_istore_n [(1, .int x1), (0, .ref (zz_a G 30))] dX7_readFlow_7 rfl (Nat.le_of_ble_eq_true rfl) rfl ?_
  refine zs_iload_n dX7_readFlow_8 rfl 0 rfl ?_
  refine zs_bipush (v := (10 : Int32)) dX7_readFlow_9 cb_10 ?_
  refine zs_icmp_lt (tgt := 20) dX7_readFlow_11 (by decide) ?_ ?_
  · refine zs_aload_n dX7_readFlow_20 rfl 1 rfl ?_
    refine zs_cV_vW (rest := []) (k_X7_next hN  _) dX7_readFlow_21 lv_X7_46 ok_X7_next (zz_rcv_o (sh_30 hN) rfl) (Nat.le_of_ble_eq_true rfl) rfl rfl (Nat.le_of_ble_eq_true rfl) (fun m2 => ?_)
    refine zs_aload_n dX7_readFlow_24 rfl 1 rfl ?_
    refine zs_getR fl_X7_19 dX7_readFlow_25 (sh_30 hN) rfl ?_
    refine zs_getR fl_X7_198 dX7_readFlow_28 (sh_16 hN) rfl ?_
    refine zs_iload_n dX7_readFlow_31 rfl 0 rfl ?_
    refine zs_aload_n dX7_readFlow_32 rfl 1 rfl ?_
    refine zs_iconst (v := (0 : Int32)) dX7_readFlow_33 ci_0 ?_
    refine zs_sipush (v := (999 : Int32)) dX7_readFlow_34 cs_999 ?_
    refine zs_cV_iW (rest := [.int x1, .ref (zz_a G 22)]) (k_X7_takeNumber hN _ _ _) dX7_readFlow_37 lv_X7_111 ok_X7_takeNumber (zz_rcv_o (sh_30 hN) rfl) (Nat.le_of_ble_eq_true rfl) rfl rfl (Nat.le_of_ble_eq_true rfl) (fun r3 m4 => ?_)
    refine zs_iastG dX7_readFlow_40 (sh_22 hN) (fun m5 => ?_)
    refine zs_aload_n dX7_readFlow_41 rfl 1 rfl ?_
    refine zs_ldcS (w := 12) dX7_readFlow_42 (by decide +kernel) ?_
    refine zs_cV_iR (rest := []) (k_X7_isWord hN (Nat.le_of_ble_eq_true rfl)  _) dX7_readFlow_44 lv_X7_99 ok_X7_isWord (zz_rcv_o (sh_30 hN) rfl) (Nat.le_of_ble_eq_true rfl) rfl rfl (Nat.le_of_ble_eq_true rfl) (fun r6 => ?_)
    refine zs_istore_n [(2, .int r6), (1, .int x1), (0, .ref (zz_a G 30))] dX7_readFlow_47 rfl (Nat.le_of_ble_eq_true rfl) rfl ?_
    refine zs_aload_n dX7_readFlow_48 rfl 2 rfl ?_
    refine zs_iload_n dX7_readFlow_49 rfl 0 rfl ?_
    refine zs_if_eq (tgt := 58) dX7_readFlow_50 (by decide) ?_ ?_
    · refine zs_ldcS (w := 13) dX7_readFlow_58 (by decide +kernel) ?_
      refine zs_cV_vW (rest := []) (k_X7_takeWord hN (Nat.le_of_ble_eq_true rfl)  _) dX7_readFlow_60 lv_X7_105 ok_X7_takeWord (zz_rcv_o (sh_30 hN) rfl) (Nat.le_of_ble_eq_true rfl) rfl rfl (Nat.le_of_ble_eq_true rfl) (fun m7 => ?_)
      refine zs_aload_n dX7_readFlow_63 rfl 2 rfl ?_
      refine zs_iconst (v := (0 : Int32)) dX7_readFlow_64 ci_0 ?_
      refine zs_sipush (v := (999 : Int32)) dX7_readFlow_65 cs_999 ?_
      refine zs_cV_iW (rest := []) (k_X7_takeNumber hN _ _ _) dX7_readFlow_68 lv_X7_111 ok_X7_takeNumber (zz_rcv_o (sh_30 hN) rfl) (Nat.le_of_ble_eq_true rfl) rfl rfl (Nat.le_of_ble_eq_true rfl) (fun r8 m9 => ?_)
      refine zs_istore_n [(3, .int r8), (2, .int r6), (1, .int x1), (0, .ref (zz_a G 30))] dX7_readFlow_71 rfl (Nat.le_of_ble_eq_true rfl) rfl ?_
      refine zs_aload_n dX7_readFlow_72 rfl 3 rfl ?_
      refine zs_getR fl_X7_19 dX7_readFlow_73 (sh_30 hN) rfl ?_
      refine zs_getR fl_X7_122 dX7_readFlow_76 (sh_16 hN) rfl ?_
      refine zs_getR fl_X7_205 dX7_readFlow_79 (sh_27 hN) rfl ?_
      refine zs_iload_n dX7_readFlow_82 rfl 2 rfl ?_
      refine zs_iload_n dX7_readFlow_83 rfl 1 rfl ?_
      refine zs_if_eq (tgt := 92) dX7_readFlow_84 (by decide) ?_ ?_
      · refine zs_iload_n dX7_readFlow_92 rfl 0 rfl ?_
        refine zs_sub [3, 2] rfl ?_
        exact t_X7_readFlow_93 hN _ _ _ _
      · refine zs_iload_n dX7_readFlow_87 rfl 0 rfl ?_
        refine zs_ineg dX7_readFlow_88 ?_
        refine zs_goto (tgt := 93) dX7_readFlow_89 (by decide) ?_
        refine zs_sub [3, 2] rfl ?_
        exact t_X7_readFlow_93 hN _ _ _ _
    · refine zs_ldcS (w := 12) dX7_readFlow_53 (by decide +kernel) ?_
      refine zs_goto (tgt := 60) dX7_readFlow_55 (by decide) ?_
      refine zs_cV_vW (rest := []) (k_X7_takeWord hN (Nat.le_of_ble_eq_true rfl)  _) dX7_readFlow_60 lv_X7_105 ok_X7_takeWord (zz_rcv_o (sh_30 hN) rfl) (Nat.le_of_ble_eq_true rfl) rfl rfl (Nat.le_of_ble_eq_true rfl) (fun m10 => ?_)
      refine zs_aload_n dX7_readFlow_63 rfl 2 rfl ?_
      refine zs_iconst (v := (0 : Int32)) dX7_readFlow_64 ci_0 ?_
      refine zs_sipush (v := (999 : Int32)) dX7_readFlow_65 cs_999 ?_
      refine zs_cV_iW (rest := []) (k_X7_takeNumber hN _ _ _) dX7_readFlow_68 lv_X7_111 ok_X7_takeNumber (zz_rcv_o (sh_30 hN) rfl) (Nat.le_of_ble_eq_true rfl) rfl rfl (Nat.le_of_ble_eq_true rfl) (fun r11 m12 => ?_)
      refine zs_istore_n [(3, .int r11), (2, .int r6), (1, .int x1), (0, .ref (zz_a G 30))] dX7_readFlow_71 rfl (Nat.le_of_ble_eq_true rfl) rfl ?_
      refine zs_aload_n dX7_readFlow_72 rfl 3 rfl ?_
      refine zs_getR fl_X7_19 dX7_readFlow_73 (sh_30 hN) rfl ?_
      refine zs_getR fl_X7_122 dX7_readFlow_76 (sh_16 hN) rfl ?_
      refine zs_getR fl_X7_205 dX7_readFlow_79 (sh_27 hN) rfl ?_
      refine zs_iload_n dX7_readFlow_82 rfl 2 rfl ?_
      refine zs_iload_n dX7_readFlow_83 rfl 1 rfl ?_
      refine zs_if_eq (tgt := 92) dX7_readFlow_84 (by decide) ?_ ?_
      · refine zs_iload_n dX7_readFlow_92 rfl 0 rfl ?_
        refine zs_sub [3, 2] rfl ?_
        exact t_X7_readFlow_93 hN _ _ _ _
      · refine zs_iload_n dX7_readFlow_87 rfl 0 rfl ?_
        refine zs_ineg dX7_readFlow_88 ?_
        refine zs_goto (tgt := 93) dX7_readFlow_89 (by decide) ?_
        refine zs_sub [3, 2] rfl ?_
        exact t_X7_readFlow_93 hN _ _ _ _
  · refine zs_aload_n dX7_readFlow_14 rfl 1 rfl ?_
    refine zs_iconst (v := (4 : Int32)) dX7_readFlow_15 ci_4 ?_
    refine zs_cV_vW (rest := []) (k_X7_fail hN _ _) dX7_readFlow_16 lv_X7_85 ok_X7_fail (zz_rcv_o (sh_30 hN) rfl) (Nat.le_of_ble_eq_true rfl) rfl rfl (Nat.le_of_ble_eq_true rfl) (fun m13 => ?_)
    exact zs_vret dX7_readFlow_19 rfl rfl rfl
/-! X7_readRates: PillarDesk$Reader.readRates()V -/
theorem dX7_readRates_0 : decode cX7_readRates 0 = .ok (.aload_n 0, 1) := by decide +kernel
theorem dX7_readRates_1 : decode cX7_readRates 1 = .ok (.invokevirtual 46, 3) := by decide +kernel
theorem dX7_readRates_4 : decode cX7_readRates 4 = .ok (.aload_n 0, 1) := by decide +kernel
theorem dX7_readRates_5 : decode cX7_readRates 5 = .ok (.bipush 58, 2) := by decide +kernel
theorem dX7_readRates_7 : decode cX7_readRates 7 = .ok (.invokevirtual 131, 3) := by decide +kernel
theorem dX7_readRates_10 : decode cX7_readRates 10 = .ok (.aload_n 0, 1) := by decide +kernel
theorem dX7_readRates_11 : decode cX7_readRates 11 = .ok (.iconst 1, 1) := by decide +kernel
theorem dX7_readRates_12 : decode cX7_readRates 12 = .ok (.putfield 208, 3) := by decide +kernel
theorem dX7_readRates_15 : decode cX7_readRates 15 = .ok (.aload_n 0, 1) := by decide +kernel
theorem dX7_readRates_16 : decode cX7_readRates 16 = .ok (.getfield 19, 3) := by decide +kernel
theorem dX7_readRates_19 : decode cX7_readRates 19 = .ok (.getfield 212, 3) := by decide +kernel
theorem dX7_readRates_22 : decode cX7_readRates 22 = .ok (.aload_n 0, 1) := by decide +kernel
theorem dX7_readRates_23 : decode cX7_readRates 23 = .ok (.getfield 19, 3) := by decide +kernel
theorem dX7_readRates_26 : decode cX7_readRates 26 = .ok (.getfield 212, 3) := by decide +kernel
theorem dX7_readRates_29 : decode cX7_readRates 29 = .ok (.getfield 216, 3) := by decide +kernel
theorem dX7_readRates_32 : decode cX7_readRates 32 = .ok (.putfield 219, 3) := by decide +kernel
theorem dX7_readRates_35 : decode cX7_readRates 35 = .ok (.aload_n 0, 1) := by decide +kernel
theorem dX7_readRates_36 : decode cX7_readRates 36 = .ok (.iconst 0, 1) := by decide +kernel
theorem dX7_readRates_37 : decode cX7_readRates 37 = .ok (.invokevirtual 222, 3) := by decide +kernel
theorem dX7_readRates_40 : decode cX7_readRates 40 = .ok (.aload_n 0, 1) := by decide +kernel
theorem dX7_readRates_41 : decode cX7_readRates 41 = .ok (.getfield 19, 3) := by decide +kernel
theorem dX7_readRates_44 : decode cX7_readRates 44 = .ok (.getfield 212, 3) := by decide +kernel
theorem dX7_readRates_47 : decode cX7_readRates 47 = .ok (.aload_n 0, 1) := by decide +kernel
theorem dX7_readRates_48 : decode cX7_readRates 48 = .ok (.getfield 19, 3) := by decide +kernel
theorem dX7_readRates_51 : decode cX7_readRates 51 = .ok (.getfield 212, 3) := by decide +kernel
theorem dX7_readRates_54 : decode cX7_readRates 54 = .ok (.getfield 216, 3) := by decide +kernel
theorem dX7_readRates_57 : decode cX7_readRates 57 = .ok (.putfield 225, 3) := by decide +kernel
theorem dX7_readRates_60 : decode cX7_readRates 60 = .ok (.return_, 1) := by decide +kernel
def f_X7_readRates   (m : zz_Mem) : Option zz_Mem :=
  zz_bndR (f_X7_next m) fun m1 =>
  zz_bndR (f_X7_takeSign (58 : Int32) m1) fun m2 =>
  zz_letM (zz_setI m2 30 9 (1 : Int32)) fun m3 =>
  zz_letM (zz_setI m3 23 4 (m3.1 23 3)) fun m4 =>
  zz_bndR (F_X7_readSum (0 : Int32) m4) fun m5 =>
  zz_letM (zz_setI m5 23 5 (m5.1 23 3)) fun m6 =>
  some m6
theorem k_X7_readRates {l : Launch} {G : zz_G} (hN : 107 ≤ zz_N G) : ∀ (m : zz_Mem), zz_Con zz_sh l G mX7_readRates 68 [.ref (zz_a G 30)] zz_vV zz_mV (f_X7_readRates m) m := by
  intro m
  refine zz_con (lv := [(0, .ref (zz_a G 30))]) (by decide +kernel) (Nat.le_of_ble_eq_true rfl) rfl ?_
  unfold f_X7_readRates
  refine zs_aload_n dX7_readRates_0 rfl 0 rfl ?_
  refine zs_cV_vW (rest := []) (k_X7_next hN  _) dX7_readRates_1 lv_X7_46 ok_X7_next (zz_rcv_o (sh_30 hN) rfl) (Nat.le_of_ble_eq_true rfl) rfl rfl (Nat.le_of_ble_eq_true rfl) (fun m1 => ?_)
  refine zs_aload_n dX7_readRates_4 rfl 0 rfl ?_
  refine zs_bipush (v := (58 : Int32)) dX7_readRates_5 cb_58 ?_
  refine zs_cV_vW (rest := []) (k_X7_takeSign hN _ _) dX7_readRates_7 lv_X7_131 ok_X7_takeSign (zz_rcv_o (sh_30 hN) rfl) (Nat.le_of_ble_eq_true rfl) rfl rfl (Nat.le_of_ble_eq_true rfl) (fun m2 => ?_)
  refine zs_aload_n dX7_readRates_10 rfl 0 rfl ?_
  refine zs_iconst (v := (1 : Int32)) dX7_readRates_11 ci_1 ?_
  refine zs_putI fl_X7_208 dX7_readRates_12 (sh_30 hN) rfl ⟨rfl, rfl⟩ (fun m3 => ?_)
  refine zs_aload_n dX7_readRates_15 rfl 0 rfl ?_
  refine zs_getR fl_X7_19 dX7_readRates_16 (sh_30 hN) rfl ?_
  refine zs_getR fl_X7_212 dX7_readRates_19 (sh_16 hN) rfl ?_
  refine zs_aload_n dX7_readRates_22 rfl 0 rfl ?_
  refine zs_getR fl_X7_19 dX7_readRates_23 (sh_30 hN) rfl ?_
  refine zs_getR fl_X7_212 dX7_readRates_26 (sh_16 hN) rfl ?_
  refine zs_getI fl_X7_216 dX7_readRates_29 (sh_23 hN) rfl ?_
  refine zs_putI fl_X7_219 dX7_readRates_32 (sh_23 hN) rfl ⟨rfl, rfl⟩ (fun m4 => ?_)
  refine zs_aload_n dX7_readRates_35 rfl 0 rfl ?_
  refine zs_iconst (v := (0 : Int32)) dX7_readRates_36 ci_0 ?_
  refine zs_cV_vW (rest := []) (K_X7_readSum hN _ _) dX7_readRates_37 lv_X7_222 ok_X7_readSum (zz_rcv_o (sh_30 hN) rfl) (Nat.le_of_ble_eq_true rfl) rfl rfl (Nat.le_of_ble_eq_true rfl) (fun m5 => ?_)
  refine zs_aload_n dX7_readRates_40 rfl 0 rfl ?_
  refine zs_getR fl_X7_19 dX7_readRates_41 (sh_30 hN) rfl ?_
  refine zs_getR fl_X7_212 dX7_readRates_44 (sh_16 hN) rfl ?_
  refine zs_aload_n dX7_readRates_47 rfl 0 rfl ?_
  refine zs_getR fl_X7_19 dX7_readRates_48 (sh_30 hN) rfl ?_
  refine zs_getR fl_X7_212 dX7_readRates_51 (sh_16 hN) rfl ?_
  refine zs_getI fl_X7_216 dX7_readRates_54 (sh_23 hN) rfl ?_
  refine zs_putI fl_X7_225 dX7_readRates_57 (sh_23 hN) rfl ⟨rfl, rfl⟩ (fun m6 => ?_)
  exact zs_vret dX7_readRates_60 rfl rfl rfl
/-! X7_readOpens: PillarDesk$Reader.readOpens()V -/
theorem dX7_readOpens_0 : decode cX7_readOpens 0 = .ok (.aload_n 0, 1) := by decide +kernel
theorem dX7_readOpens_1 : decode cX7_readOpens 1 = .ok (.invokevirtual 46, 3) := by decide +kernel
theorem dX7_readOpens_4 : decode cX7_readOpens 4 = .ok (.aload_n 0, 1) := by decide +kernel
theorem dX7_readOpens_5 : decode cX7_readOpens 5 = .ok (.bipush 58, 2) := by decide +kernel
theorem dX7_readOpens_7 : decode cX7_readOpens 7 = .ok (.invokevirtual 131, 3) := by decide +kernel
theorem dX7_readOpens_10 : decode cX7_readOpens 10 = .ok (.aload_n 0, 1) := by decide +kernel
theorem dX7_readOpens_11 : decode cX7_readOpens 11 = .ok (.iconst 0, 1) := by decide +kernel
theorem dX7_readOpens_12 : decode cX7_readOpens 12 = .ok (.putfield 208, 3) := by decide +kernel
theorem dX7_readOpens_15 : decode cX7_readOpens 15 = .ok (.aload_n 0, 1) := by decide +kernel
theorem dX7_readOpens_16 : decode cX7_readOpens 16 = .ok (.getfield 19, 3) := by decide +kernel
theorem dX7_readOpens_19 : decode cX7_readOpens 19 = .ok (.getfield 212, 3) := by decide +kernel
theorem dX7_readOpens_22 : decode cX7_readOpens 22 = .ok (.aload_n 0, 1) := by decide +kernel
theorem dX7_readOpens_23 : decode cX7_readOpens 23 = .ok (.getfield 19, 3) := by decide +kernel
theorem dX7_readOpens_26 : decode cX7_readOpens 26 = .ok (.getfield 212, 3) := by decide +kernel
theorem dX7_readOpens_29 : decode cX7_readOpens 29 = .ok (.getfield 216, 3) := by decide +kernel
theorem dX7_readOpens_32 : decode cX7_readOpens 32 = .ok (.putfield 228, 3) := by decide +kernel
theorem dX7_readOpens_35 : decode cX7_readOpens 35 = .ok (.aload_n 0, 1) := by decide +kernel
theorem dX7_readOpens_36 : decode cX7_readOpens 36 = .ok (.iconst 0, 1) := by decide +kernel
theorem dX7_readOpens_37 : decode cX7_readOpens 37 = .ok (.invokevirtual 231, 3) := by decide +kernel
theorem dX7_readOpens_40 : decode cX7_readOpens 40 = .ok (.aload_n 0, 1) := by decide +kernel
theorem dX7_readOpens_41 : decode cX7_readOpens 41 = .ok (.getfield 19, 3) := by decide +kernel
theorem dX7_readOpens_44 : decode cX7_readOpens 44 = .ok (.getfield 212, 3) := by decide +kernel
theorem dX7_readOpens_47 : decode cX7_readOpens 47 = .ok (.aload_n 0, 1) := by decide +kernel
theorem dX7_readOpens_48 : decode cX7_readOpens 48 = .ok (.getfield 19, 3) := by decide +kernel
theorem dX7_readOpens_51 : decode cX7_readOpens 51 = .ok (.getfield 212, 3) := by decide +kernel
theorem dX7_readOpens_54 : decode cX7_readOpens 54 = .ok (.getfield 216, 3) := by decide +kernel
theorem dX7_readOpens_57 : decode cX7_readOpens 57 = .ok (.putfield 234, 3) := by decide +kernel
theorem dX7_readOpens_60 : decode cX7_readOpens 60 = .ok (.return_, 1) := by decide +kernel
def f_X7_readOpens   (m : zz_Mem) : Option zz_Mem :=
  zz_bndR (f_X7_next m) fun m1 =>
  zz_bndR (f_X7_takeSign (58 : Int32) m1) fun m2 =>
  zz_letM (zz_setI m2 30 9 (0 : Int32)) fun m3 =>
  zz_letM (zz_setI m3 23 6 (m3.1 23 3)) fun m4 =>
  zz_bndR (F_X7_readTruth (0 : Int32) m4) fun m5 =>
  zz_letM (zz_setI m5 23 7 (m5.1 23 3)) fun m6 =>
  some m6
theorem k_X7_readOpens {l : Launch} {G : zz_G} (hN : 107 ≤ zz_N G) : ∀ (m : zz_Mem), zz_Con zz_sh l G mX7_readOpens 68 [.ref (zz_a G 30)] zz_vV zz_mV (f_X7_readOpens m) m := by
  intro m
  refine zz_con (lv := [(0, .ref (zz_a G 30))]) (by decide +kernel) (Nat.le_of_ble_eq_true rfl) rfl ?_
  unfold f_X7_readOpens
  refine zs_aload_n dX7_readOpens_0 rfl 0 rfl ?_
  refine zs_cV_vW (rest := []) (k_X7_next hN  _) dX7_readOpens_1 lv_X7_46 ok_X7_next (zz_rcv_o (sh_30 hN) rfl) (Nat.le_of_ble_eq_true rfl) rfl rfl (Nat.le_of_ble_eq_true rfl) (fun m1 => ?_)
  refine zs_aload_n dX7_readOpens_4 rfl 0 rfl ?_
  refine zs_bipush (v := (58 : Int32)) dX7_readOpens_5 cb_58 ?_
  refine zs_cV_vW (rest := []) (k_X7_takeSign hN _ _) dX7_readOpens_7 lv_X7_131 ok_X7_takeSign (zz_rcv_o (sh_30 hN) rfl) (Nat.le_of_ble_eq_true rfl) rfl rfl (Nat.le_of_ble_eq_true rfl) (fun m2 => ?_)
  refine zs_aload_n dX7_readOpens_10 rfl 0 rfl ?_
  refine zs_iconst (v := (0 : Int32)) dX7_readOpens_11 ci_0 ?_
  refine zs_putI fl_X7_208 dX7_readOpens_12 (sh_30 hN) rfl ⟨rfl, rfl⟩ (fun m3 => ?_)
  refine zs_aload_n dX7_readOpens_15 rfl 0 rfl ?_
  refine zs_getR fl_X7_19 dX7_readOpens_16 (sh_30 hN) rfl ?_
  refine zs_getR fl_X7_212 dX7_readOpens_19 (sh_16 hN) rfl ?_
  refine zs_aload_n dX7_readOpens_22 rfl 0 rfl ?_
  refine zs_getR fl_X7_19 dX7_readOpens_23 (sh_30 hN) rfl ?_
  refine zs_getR fl_X7_212 dX7_readOpens_26 (sh_16 hN) rfl ?_
  refine zs_getI fl_X7_216 dX7_readOpens_29 (sh_23 hN) rfl ?_
  refine zs_putI fl_X7_228 dX7_readOpens_32 (sh_23 hN) rfl ⟨rfl, rfl⟩ (fun m4 => ?_)
  refine zs_aload_n dX7_readOpens_35 rfl 0 rfl ?_
  refine zs_iconst (v := (0 : Int32)) dX7_readOpens_36 ci_0 ?_
  refine zs_cV_vW (rest := []) (K_X7_readTruth hN _ _) dX7_readOpens_37 lv_X7_231 ok_X7_readTruth (zz_rcv_o (sh_30 hN) rfl) (Nat.le_of_ble_eq_true rfl) rfl rfl (Nat.le_of_ble_eq_true rfl) (fun m5 => ?_)
  refine zs_aload_n dX7_readOpens_40 rfl 0 rfl ?_
  refine zs_getR fl_X7_19 dX7_readOpens_41 (sh_30 hN) rfl ?_
  refine zs_getR fl_X7_212 dX7_readOpens_44 (sh_16 hN) rfl ?_
  refine zs_aload_n dX7_readOpens_47 rfl 0 rfl ?_
  refine zs_getR fl_X7_19 dX7_readOpens_48 (sh_30 hN) rfl ?_
  refine zs_getR fl_X7_212 dX7_readOpens_51 (sh_16 hN) rfl ?_
  refine zs_getI fl_X7_216 dX7_readOpens_54 (sh_23 hN) rfl ?_
  refine zs_putI fl_X7_234 dX7_readOpens_57 (sh_23 hN) rfl ⟨rfl, rfl⟩ (fun m6 => ?_)
  exact zs_vret dX7_readOpens_60 rfl rfl rfl
/-! X7_readLine: PillarDesk$Reader.readLine()V -/
theorem dX7_readLine_0 : decode cX7_readLine 0 = .ok (.aload_n 0, 1) := by decide +kernel
theorem dX7_readLine_1 : decode cX7_readLine 1 = .ok (.ldc 138, 2) := by decide +kernel
theorem dX7_readLine_3 : decode cX7_readLine 3 = .ok (.invokevirtual 99, 3) := by decide +kernel
theorem dX7_readLine_6 : decode cX7_readLine 6 = .ok (.ifCond .eq 10, 3) := by decide +kernel
theorem dX7_readLine_9 : decode cX7_readLine 9 = .ok (.aload_n 0, 1) := by decide +kernel
theorem dX7_readLine_10 : decode cX7_readLine 10 = .ok (.invokevirtual 140, 3) := by decide +kernel
theorem dX7_readLine_13 : decode cX7_readLine 13 = .ok (.goto 107, 3) := by decide +kernel
theorem dX7_readLine_16 : decode cX7_readLine 16 = .ok (.aload_n 0, 1) := by decide +kernel
theorem dX7_readLine_17 : decode cX7_readLine 17 = .ok (.ldc 143, 2) := by decide +kernel
theorem dX7_readLine_19 : decode cX7_readLine 19 = .ok (.invokevirtual 99, 3) := by decide +kernel
theorem dX7_readLine_22 : decode cX7_readLine 22 = .ok (.ifCond .eq 11, 3) := by decide +kernel
theorem dX7_readLine_25 : decode cX7_readLine 25 = .ok (.aload_n 0, 1) := by decide +kernel
theorem dX7_readLine_26 : decode cX7_readLine 26 = .ok (.iconst 0, 1) := by decide +kernel
theorem dX7_readLine_27 : decode cX7_readLine 27 = .ok (.invokevirtual 145, 3) := by decide +kernel
theorem dX7_readLine_30 : decode cX7_readLine 30 = .ok (.goto 90, 3) := by decide +kernel
theorem dX7_readLine_33 : decode cX7_readLine 33 = .ok (.aload_n 0, 1) := by decide +kernel
theorem dX7_readLine_34 : decode cX7_readLine 34 = .ok (.ldc 148, 2) := by decide +kernel
theorem dX7_readLine_36 : decode cX7_readLine 36 = .ok (.invokevirtual 99, 3) := by decide +kernel
theorem dX7_readLine_39 : decode cX7_readLine 39 = .ok (.ifCond .eq 11, 3) := by decide +kernel
theorem dX7_readLine_42 : decode cX7_readLine 42 = .ok (.aload_n 0, 1) := by decide +kernel
theorem dX7_readLine_43 : decode cX7_readLine 43 = .ok (.iconst 1, 1) := by decide +kernel
theorem dX7_readLine_44 : decode cX7_readLine 44 = .ok (.invokevirtual 145, 3) := by decide +kernel
theorem dX7_readLine_47 : decode cX7_readLine 47 = .ok (.goto 73, 3) := by decide +kernel
theorem dX7_readLine_50 : decode cX7_readLine 50 = .ok (.aload_n 0, 1) := by decide +kernel
theorem dX7_readLine_51 : decode cX7_readLine 51 = .ok (.ldc 150, 2) := by decide +kernel
theorem dX7_readLine_53 : decode cX7_readLine 53 = .ok (.invokevirtual 99, 3) := by decide +kernel
theorem dX7_readLine_56 : decode cX7_readLine 56 = .ok (.ifCond .eq 11, 3) := by decide +kernel
theorem dX7_readLine_59 : decode cX7_readLine 59 = .ok (.aload_n 0, 1) := by decide +kernel
theorem dX7_readLine_60 : decode cX7_readLine 60 = .ok (.iconst 2, 1) := by decide +kernel
theorem dX7_readLine_61 : decode cX7_readLine 61 = .ok (.invokevirtual 145, 3) := by decide +kernel
theorem dX7_readLine_64 : decode cX7_readLine 64 = .ok (.goto 56, 3) := by decide +kernel
theorem dX7_readLine_67 : decode cX7_readLine 67 = .ok (.aload_n 0, 1) := by decide +kernel
theorem dX7_readLine_68 : decode cX7_readLine 68 = .ok (.ldc 152, 2) := by decide +kernel
theorem dX7_readLine_70 : decode cX7_readLine 70 = .ok (.invokevirtual 99, 3) := by decide +kernel
theorem dX7_readLine_73 : decode cX7_readLine 73 = .ok (.ifCond .eq 10, 3) := by decide +kernel
theorem dX7_readLine_76 : decode cX7_readLine 76 = .ok (.aload_n 0, 1) := by decide +kernel
theorem dX7_readLine_77 : decode cX7_readLine 77 = .ok (.invokevirtual 154, 3) := by decide +kernel
theorem dX7_readLine_80 : decode cX7_readLine 80 = .ok (.goto 40, 3) := by decide +kernel
theorem dX7_readLine_83 : decode cX7_readLine 83 = .ok (.aload_n 0, 1) := by decide +kernel
theorem dX7_readLine_84 : decode cX7_readLine 84 = .ok (.ldc 157, 2) := by decide +kernel
theorem dX7_readLine_86 : decode cX7_readLine 86 = .ok (.invokevirtual 99, 3) := by decide +kernel
theorem dX7_readLine_89 : decode cX7_readLine 89 = .ok (.ifCond .eq 10, 3) := by decide +kernel
theorem dX7_readLine_92 : decode cX7_readLine 92 = .ok (.aload_n 0, 1) := by decide +kernel
theorem dX7_readLine_93 : decode cX7_readLine 93 = .ok (.invokevirtual 159, 3) := by decide +kernel
theorem dX7_readLine_96 : decode cX7_readLine 96 = .ok (.goto 24, 3) := by decide +kernel
theorem dX7_readLine_99 : decode cX7_readLine 99 = .ok (.aload_n 0, 1) := by decide +kernel
theorem dX7_readLine_100 : decode cX7_readLine 100 = .ok (.ldc 162, 2) := by decide +kernel
theorem dX7_readLine_102 : decode cX7_readLine 102 = .ok (.invokevirtual 99, 3) := by decide +kernel
theorem dX7_readLine_105 : decode cX7_readLine 105 = .ok (.ifCond .eq 10, 3) := by decide +kernel
theorem dX7_readLine_108 : decode cX7_readLine 108 = .ok (.aload_n 0, 1) := by decide +kernel
theorem dX7_readLine_109 : decode cX7_readLine 109 = .ok (.invokevirtual 164, 3) := by decide +kernel
theorem dX7_readLine_112 : decode cX7_readLine 112 = .ok (.goto 8, 3) := by decide +kernel
theorem dX7_readLine_115 : decode cX7_readLine 115 = .ok (.aload_n 0, 1) := by decide +kernel
theorem dX7_readLine_116 : decode cX7_readLine 116 = .ok (.iconst 2, 1) := by decide +kernel
theorem dX7_readLine_117 : decode cX7_readLine 117 = .ok (.invokevirtual 85, 3) := by decide +kernel
theorem dX7_readLine_120 : decode cX7_readLine 120 = .ok (.aload_n 0, 1) := by decide +kernel
theorem dX7_readLine_121 : decode cX7_readLine 121 = .ok (.bipush 59, 2) := by decide +kernel
theorem dX7_readLine_123 : decode cX7_readLine 123 = .ok (.invokevirtual 131, 3) := by decide +kernel
theorem dX7_readLine_126 : decode cX7_readLine 126 = .ok (.aload_n 0, 1) := by decide +kernel
theorem dX7_readLine_127 : decode cX7_readLine 127 = .ok (.getfield 19, 3) := by decide +kernel
theorem dX7_readLine_130 : decode cX7_readLine 130 = .ok (.dup, 1) := by decide +kernel
theorem dX7_readLine_131 : decode cX7_readLine 131 = .ok (.getfield 135, 3) := by decide +kernel
theorem dX7_readLine_134 : decode cX7_readLine 134 = .ok (.iconst 1, 1) := by decide +kernel
theorem dX7_readLine_135 : decode cX7_readLine 135 = .ok (.iadd, 1) := by decide +kernel
theorem dX7_readLine_136 : decode cX7_readLine 136 = .ok (.putfield 135, 3) := by decide +kernel
theorem dX7_readLine_139 : decode cX7_readLine 139 = .ok (.return_, 1) := by decide +kernel
def f_X7_readLine_120   (m : zz_Mem) : Option zz_Mem :=
  zz_bndR (f_X7_takeSign (59 : Int32) m) fun m1 =>
  zz_letM (zz_setI m1 16 2 ((m1.1 16 2) + (1 : Int32))) fun m2 =>
  some m2
theorem t_X7_readLine_120 {l : Launch} {G : zz_G} (hN : 107 ≤ zz_N G)  : ∀ (m : zz_Mem), zz_Sim zz_sh l G mX7_readLine 69 zz_vV zz_mV (f_X7_readLine_120 m) 120 [(0, .ref (zz_a G 30))] [] m := by
  intro m
  unfold f_X7_readLine_120
  refine zs_aload_n dX7_readLine_120 rfl 0 rfl ?_
  refine zs_bipush (v := (59 : Int32)) dX7_readLine_121 cb_59 ?_
  refine zs_cV_vW (rest := []) (k_X7_takeSign hN _ _) dX7_readLine_123 lv_X7_131 ok_X7_takeSign (zz_rcv_o (sh_30 hN) rfl) (Nat.le_of_ble_eq_true rfl) rfl rfl (Nat.le_of_ble_eq_true rfl) (fun m1 => ?_)
  refine zs_aload_n dX7_readLine_126 rfl 0 rfl ?_
  refine zs_getR fl_X7_19 dX7_readLine_127 (sh_30 hN) rfl ?_
  refine zs_dup dX7_readLine_130 rfl ?_
  refine zs_getI fl_X7_135 dX7_readLine_131 (sh_16 hN) rfl ?_
  refine zs_iconst (v := (1 : Int32)) dX7_readLine_134 ci_1 ?_
  refine zs_iadd dX7_readLine_135 ?_
  refine zs_putI fl_X7_135 dX7_readLine_136 (sh_16 hN) rfl ⟨rfl, rfl⟩ (fun m2 => ?_)
  exact zs_vret dX7_readLine_139 rfl rfl rfl
def f_X7_readLine   (m : zz_Mem) : Option zz_Mem :=
  zz_bndR (f_X7_isWord 5 m) fun r1 =>
  if r1 = 0 then (
  zz_bndR (f_X7_isWord 6 m) fun r2 =>
  if r2 = 0 then (
  zz_bndR (f_X7_isWord 9 m) fun r3 =>
  if r3 = 0 then (
  zz_bndR (f_X7_isWord 10 m) fun r4 =>
  if r4 = 0 then (
  zz_bndR (f_X7_isWord 11 m) fun r5 =>
  if r5 = 0 then (
  zz_bndR (f_X7_isWord 14 m) fun r6 =>
  if r6 = 0 then (
  zz_bndR (f_X7_isWord 28 m) fun r7 =>
  if r7 = 0 then (
  zz_bndR (f_X7_fail (2 : Int32) m) fun m8 =>
  f_X7_readLine_120 m8)
  else (
  zz_bndR (f_X7_readOpens m) fun m9 =>
  f_X7_readLine_120 m9))
  else (
  zz_bndR (f_X7_readRates m) fun m10 =>
  f_X7_readLine_120 m10))
  else (
  zz_bndR (f_X7_readFlow m) fun m11 =>
  f_X7_readLine_120 m11))
  else (
  zz_bndR (f_X7_readInput (2 : Int32) m) fun m12 =>
  f_X7_readLine_120 m12))
  else (
  zz_bndR (f_X7_readInput (1 : Int32) m) fun m13 =>
  f_X7_readLine_120 m13))
  else (
  zz_bndR (f_X7_readInput (0 : Int32) m) fun m14 =>
  f_X7_readLine_120 m14))
  else (
  zz_bndR (f_X7_readHoliday m) fun m15 =>
  f_X7_readLine_120 m15)
theorem k_X7_readLine {l : Launch} {G : zz_G} (hN : 107 ≤ zz_N G) : ∀ (m : zz_Mem), zz_Con zz_sh l G mX7_readLine 69 [.ref (zz_a G 30)] zz_vV zz_mV (f_X7_readLine m) m := by
  intro m
  refine zz_con (lv := [(0, .ref (zz_a G 30))]) (by decide +kernel) (Nat.le_of_ble_eq_true rfl) rfl ?_
  unfold f_X7_readLine
  refine zs_aload_n dX7_readLine_0 rfl 0 rfl ?_
  refine zs_ldcS (w := 5) dX7_readLine_1 (by decide +kernel) ?_
  refine zs_cV_iR (rest := []) (k_X7_isWord hN (Nat.le_of_ble_eq_true rfl)  _) dX7_readLine_3 lv_X7_99 ok_X7_isWord (zz_rcv_o (sh_30 hN) rfl) (Nat.le_of_ble_eq_true rfl) rfl rfl (Nat.le_of_ble_eq_true rfl) (fun r1 => ?_)
  refine zs_if_eq (tgt := 16) dX7_readLine_6 (by decide) ?_ ?_
  · refine zs_aload_n dX7_readLine_16 rfl 0 rfl ?_
    refine zs_ldcS (w := 6) dX7_readLine_17 (by decide +kernel) ?_
    refine zs_cV_iR (rest := []) (k_X7_isWord hN (Nat.le_of_ble_eq_true rfl)  _) dX7_readLine_19 lv_X7_99 ok_X7_isWord (zz_rcv_o (sh_30 hN) rfl) (Nat.le_of_ble_eq_true rfl) rfl rfl (Nat.le_of_ble_eq_true rfl) (fun r2 => ?_)
    refine zs_if_eq (tgt := 33) dX7_readLine_22 (by decide) ?_ ?_
    · refine zs_aload_n dX7_readLine_33 rfl 0 rfl ?_
      refine zs_ldcS (w := 9) dX7_readLine_34 (by decide +kernel) ?_
      refine zs_cV_iR (rest := []) (k_X7_isWord hN (Nat.le_of_ble_eq_true rfl)  _) dX7_readLine_36 lv_X7_99 ok_X7_isWord (zz_rcv_o (sh_30 hN) rfl) (Nat.le_of_ble_eq_true rfl) rfl rfl (Nat.le_of_ble_eq_true rfl) (fun r3 => ?_)
      refine zs_if_eq (tgt := 50) dX7_readLine_39 (by decide) ?_ ?_
      · refine zs_aload_n dX7_readLine_50 rfl 0 rfl ?_
        refine zs_ldcS (w := 10) dX7_readLine_51 (by decide +kernel) ?_
        refine zs_cV_iR (rest := []) (k_X7_isWord hN (Nat.le_of_ble_eq_true rfl)  _) dX7_readLine_53 lv_X7_99 ok_X7_isWord (zz_rcv_o (sh_30 hN) rfl) (Nat.le_of_ble_eq_true rfl) rfl rfl (Nat.le_of_ble_eq_true rfl) (fun r4 => ?_)
        refine zs_if_eq (tgt := 67) dX7_readLine_56 (by decide) ?_ ?_
        · refine zs_aload_n dX7_readLine_67 rfl 0 rfl ?_
          refine zs_ldcS (w := 11) dX7_readLine_68 (by decide +kernel) ?_
          refine zs_cV_iR (rest := []) (k_X7_isWord hN (Nat.le_of_ble_eq_true rfl)  _) dX7_readLine_70 lv_X7_99 ok_X7_isWord (zz_rcv_o (sh_30 hN) rfl) (Nat.le_of_ble_eq_true rfl) rfl rfl (Nat.le_of_ble_eq_true rfl) (fun r5 => ?_)
          refine zs_if_eq (tgt := 83) dX7_readLine_73 (by decide) ?_ ?_
          · refine zs_aload_n dX7_readLine_83 rfl 0 rfl ?_
            refine zs_ldcS (w := 14) dX7_readLine_84 (by decide +kernel) ?_
            refine zs_cV_iR (rest := []) (k_X7_isWord hN (Nat.le_of_ble_eq_true rfl)  _) dX7_readLine_86 lv_X7_99 ok_X7_isWord (zz_rcv_o (sh_30 hN) rfl) (Nat.le_of_ble_eq_true rfl) rfl rfl (Nat.le_of_ble_eq_true rfl) (fun r6 => ?_)
            refine zs_if_eq (tgt := 99) dX7_readLine_89 (by decide) ?_ ?_
            · refine zs_aload_n dX7_readLine_99 rfl 0 rfl ?_
              refine zs_ldcS (w := 28) dX7_readLine_100 (by decide +kernel) ?_
              refine zs_cV_iR (rest := []) (k_X7_isWord hN (Nat.le_of_ble_eq_true rfl)  _) dX7_readLine_102 lv_X7_99 ok_X7_isWord (zz_rcv_o (sh_30 hN) rfl) (Nat.le_of_ble_eq_true rfl) rfl rfl (Nat.le_of_ble_eq_true rfl) (fun r7 => ?_)
              refine zs_if_eq (tgt := 115) dX7_readLine_105 (by decide) ?_ ?_
              · refine zs_aload_n dX7_readLine_115 rfl 0 rfl ?_
                refine zs_iconst (v := (2 : Int32)) dX7_readLine_116 ci_2 ?_
                refine zs_cV_vW (rest := []) (k_X7_fail hN _ _) dX7_readLine_117 lv_X7_85 ok_X7_fail (zz_rcv_o (sh_30 hN) rfl) (Nat.le_of_ble_eq_true rfl) rfl rfl (Nat.le_of_ble_eq_true rfl) (fun m8 => ?_)
                exact t_X7_readLine_120 hN _
              · refine zs_aload_n dX7_readLine_108 rfl 0 rfl ?_
                refine zs_cV_vW (rest := []) (k_X7_readOpens hN  _) dX7_readLine_109 lv_X7_164 ok_X7_readOpens (zz_rcv_o (sh_30 hN) rfl) (Nat.le_of_ble_eq_true rfl) rfl rfl (Nat.le_of_ble_eq_true rfl) (fun m9 => ?_)
                refine zs_goto (tgt := 120) dX7_readLine_112 (by decide) ?_
                exact t_X7_readLine_120 hN _
            · refine zs_aload_n dX7_readLine_92 rfl 0 rfl ?_
              refine zs_cV_vW (rest := []) (k_X7_readRates hN  _) dX7_readLine_93 lv_X7_159 ok_X7_readRates (zz_rcv_o (sh_30 hN) rfl) (Nat.le_of_ble_eq_true rfl) rfl rfl (Nat.le_of_ble_eq_true rfl) (fun m10 => ?_)
              refine zs_goto (tgt := 120) dX7_readLine_96 (by decide) ?_
              exact t_X7_readLine_120 hN _
          · refine zs_aload_n dX7_readLine_76 rfl 0 rfl ?_
            refine zs_cV_vW (rest := []) (k_X7_readFlow hN  _) dX7_readLine_77 lv_X7_154 ok_X7_readFlow (zz_rcv_o (sh_30 hN) rfl) (Nat.le_of_ble_eq_true rfl) rfl rfl (Nat.le_of_ble_eq_true rfl) (fun m11 => ?_)
            refine zs_goto (tgt := 120) dX7_readLine_80 (by decide) ?_
            exact t_X7_readLine_120 hN _
        · refine zs_aload_n dX7_readLine_59 rfl 0 rfl ?_
          refine zs_iconst (v := (2 : Int32)) dX7_readLine_60 ci_2 ?_
          refine zs_cV_vW (rest := []) (k_X7_readInput hN _ _) dX7_readLine_61 lv_X7_145 ok_X7_readInput (zz_rcv_o (sh_30 hN) rfl) (Nat.le_of_ble_eq_true rfl) rfl rfl (Nat.le_of_ble_eq_true rfl) (fun m12 => ?_)
          refine zs_goto (tgt := 120) dX7_readLine_64 (by decide) ?_
          exact t_X7_readLine_120 hN _
      · refine zs_aload_n dX7_readLine_42 rfl 0 rfl ?_
        refine zs_iconst (v := (1 : Int32)) dX7_readLine_43 ci_1 ?_
        refine zs_cV_vW (rest := []) (k_X7_readInput hN _ _) dX7_readLine_44 lv_X7_145 ok_X7_readInput (zz_rcv_o (sh_30 hN) rfl) (Nat.le_of_ble_eq_true rfl) rfl rfl (Nat.le_of_ble_eq_true rfl) (fun m13 => ?_)
        refine zs_goto (tgt := 120) dX7_readLine_47 (by decide) ?_
        exact t_X7_readLine_120 hN _
    · refine zs_aload_n dX7_readLine_25 rfl 0 rfl ?_
      refine zs_iconst (v := (0 : Int32)) dX7_readLine_26 ci_0 ?_
      refine zs_cV_vW (rest := []) (k_X7_readInput hN _ _) dX7_readLine_27 lv_X7_145 ok_X7_readInput (zz_rcv_o (sh_30 hN) rfl) (Nat.le_of_ble_eq_true rfl) rfl rfl (Nat.le_of_ble_eq_true rfl) (fun m14 => ?_)
      refine zs_goto (tgt := 120) dX7_readLine_30 (by decide) ?_
      exact t_X7_readLine_120 hN _
  · refine zs_aload_n dX7_readLine_9 rfl 0 rfl ?_
    refine zs_cV_vW (rest := []) (k_X7_readHoliday hN  _) dX7_readLine_10 lv_X7_140 ok_X7_readHoliday (zz_rcv_o (sh_30 hN) rfl) (Nat.le_of_ble_eq_true rfl) rfl rfl (Nat.le_of_ble_eq_true rfl) (fun m15 => ?_)
    refine zs_goto (tgt := 120) dX7_readLine_13 (by decide) ?_
    exact t_X7_readLine_120 hN _
/-! X7_read: PillarDesk$Reader.read([BI)V -/
theorem dX7_read_0 : decode cX7_read 0 = .ok (.aload_n 0, 1) := by decide +kernel
theorem dX7_read_1 : decode cX7_read 1 = .ok (.aload_n 1, 1) := by decide +kernel
theorem dX7_read_2 : decode cX7_read 2 = .ok (.putfield 9, 3) := by decide +kernel
theorem dX7_read_5 : decode cX7_read 5 = .ok (.aload_n 0, 1) := by decide +kernel
theorem dX7_read_6 : decode cX7_read 6 = .ok (.iconst 0, 1) := by decide +kernel
theorem dX7_read_7 : decode cX7_read 7 = .ok (.iload_n 2, 1) := by decide +kernel
theorem dX7_read_8 : decode cX7_read 8 = .ok (.aload_n 1, 1) := by decide +kernel
theorem dX7_read_9 : decode cX7_read 9 = .ok (.arraylength, 1) := by decide +kernel
theorem dX7_read_10 : decode cX7_read 10 = .ok (.invokestatic 23, 3) := by decide +kernel
theorem dX7_read_13 : decode cX7_read 13 = .ok (.invokestatic 29, 3) := by decide +kernel
theorem dX7_read_16 : decode cX7_read 16 = .ok (.putfield 32, 3) := by decide +kernel
theorem dX7_read_19 : decode cX7_read 19 = .ok (.aload_n 0, 1) := by decide +kernel
theorem dX7_read_20 : decode cX7_read 20 = .ok (.iconst 0, 1) := by decide +kernel
theorem dX7_read_21 : decode cX7_read 21 = .ok (.putfield 35, 3) := by decide +kernel
theorem dX7_read_24 : decode cX7_read 24 = .ok (.aload_n 0, 1) := by decide +kernel
theorem dX7_read_25 : decode cX7_read 25 = .ok (.iconst 0, 1) := by decide +kernel
theorem dX7_read_26 : decode cX7_read 26 = .ok (.putfield 38, 3) := by decide +kernel
theorem dX7_read_29 : decode cX7_read 29 = .ok (.aload_n 0, 1) := by decide +kernel
theorem dX7_read_30 : decode cX7_read 30 = .ok (.iconst (-1), 1) := by decide +kernel
theorem dX7_read_31 : decode cX7_read 31 = .ok (.putfield 15, 3) := by decide +kernel
theorem dX7_read_34 : decode cX7_read 34 = .ok (.aload_n 0, 1) := by decide +kernel
theorem dX7_read_35 : decode cX7_read 35 = .ok (.getfield 19, 3) := by decide +kernel
theorem dX7_read_38 : decode cX7_read 38 = .ok (.invokevirtual 41, 3) := by decide +kernel
theorem dX7_read_41 : decode cX7_read 41 = .ok (.aload_n 0, 1) := by decide +kernel
theorem dX7_read_42 : decode cX7_read 42 = .ok (.invokevirtual 46, 3) := by decide +kernel
theorem dX7_read_45 : decode cX7_read 45 = .ok (.aload_n 0, 1) := by decide +kernel
theorem dX7_read_46 : decode cX7_read 46 = .ok (.invokevirtual 49, 3) := by decide +kernel
theorem dX7_read_49 : decode cX7_read 49 = .ok (.iconst 0, 1) := by decide +kernel
theorem dX7_read_50 : decode cX7_read 50 = .ok (.istore_n 3, 1) := by decide +kernel
theorem dX7_read_51 : decode cX7_read 51 = .ok (.iload_n 3, 1) := by decide +kernel
theorem dX7_read_52 : decode cX7_read 52 = .ok (.sipush 900, 3) := by decide +kernel
theorem dX7_read_55 : decode cX7_read 55 = .ok (.if_icmp .ge 28, 3) := by decide +kernel
theorem dX7_read_58 : decode cX7_read 58 = .ok (.aload_n 0, 1) := by decide +kernel
theorem dX7_read_59 : decode cX7_read 59 = .ok (.getfield 52, 3) := by decide +kernel
theorem dX7_read_62 : decode cX7_read 62 = .ok (.ifCond .eq 21, 3) := by decide +kernel
theorem dX7_read_65 : decode cX7_read 65 = .ok (.aload_n 0, 1) := by decide +kernel
theorem dX7_read_66 : decode cX7_read 66 = .ok (.getfield 52, 3) := by decide +kernel
theorem dX7_read_69 : decode cX7_read 69 = .ok (.iconst 3, 1) := by decide +kernel
theorem dX7_read_70 : decode cX7_read 70 = .ok (.if_icmp .eq 13, 3) := by decide +kernel
theorem dX7_read_73 : decode cX7_read 73 = .ok (.aload_n 0, 1) := by decide +kernel
theorem dX7_read_74 : decode cX7_read 74 = .ok (.invokevirtual 55, 3) := by decide +kernel
theorem dX7_read_77 : decode cX7_read 77 = .ok (.iinc 3 1, 3) := by decide +kernel
theorem dX7_read_80 : decode cX7_read 80 = .ok (.goto (-29), 3) := by decide +kernel
theorem dX7_read_83 : decode cX7_read 83 = .ok (.return_, 1) := by decide +kernel
def f_X7_read_51   : Nat → Int32 → zz_Mem → Option zz_Mem
  | 0, _, _ => none
  | n + 1, v3, m =>
  if (900 : Int32) ≤ v3 then (
  some m)
  else (
  if (m.1 30 4) = 0 then (
  some m)
  else (
  if (m.1 30 4) = (3 : Int32) then (
  some m)
  else (
  zz_bndR (f_X7_readLine m) fun m1 =>
  zz_letI (v3 + (1 : Int32)) fun x2 =>
  f_X7_read_51 n x2 m1)))
theorem t_X7_read_51 {l : Launch} {G : zz_G} (hN : 107 ≤ zz_N G)  : ∀ (n : Nat) (v3 : Int32) (m : zz_Mem), zz_Sim zz_sh l G mX7_read 70 zz_vV zz_mV (f_X7_read_51 n v3 m) 51 [(0, .ref (zz_a G 30)), (3, .int v3)] [] m := by
  intro n
  induction n with
  | zero => intro _ _; exact zs_none
  | succ n ih =>
    intro v3 m
    rw [f_X7_read_51]
    refine zs_iload_n dX7_read_51 rfl 1 rfl ?_
    refine zs_sipush (v := (900 : Int32)) dX7_read_52 cs_900 ?_
    refine zs_icmp_ge (tgt := 83) dX7_read_55 (by decide) ?_ ?_
    · exact zs_vret dX7_read_83 rfl rfl rfl
    · refine zs_aload_n dX7_read_58 rfl 0 rfl ?_
      refine zs_getI fl_X7_52 dX7_read_59 (sh_30 hN) rfl ?_
      refine zs_if_eq (tgt := 83) dX7_read_62 (by decide) ?_ ?_
      · exact zs_vret dX7_read_83 rfl rfl rfl
      · refine zs_aload_n dX7_read_65 rfl 0 rfl ?_
        refine zs_getI fl_X7_52 dX7_read_66 (sh_30 hN) rfl ?_
        refine zs_iconst (v := (3 : Int32)) dX7_read_69 ci_3 ?_
        refine zs_icmp_eq (tgt := 83) dX7_read_70 (by decide) ?_ ?_
        · exact zs_vret dX7_read_83 rfl rfl rfl
        · refine zs_aload_n dX7_read_73 rfl 0 rfl ?_
          refine zs_cV_vW (rest := []) (k_X7_readLine hN  _) dX7_read_74 lv_X7_55 ok_X7_readLine (zz_rcv_o (sh_30 hN) rfl) (Nat.le_of_ble_eq_true rfl) rfl rfl (Nat.le_of_ble_eq_true rfl) (fun m1 => ?_)
          refine zs_iinc (fun y => [(3, .int y), (0, .ref (zz_a G 30))]) dX7_read_77 1 rfl ci_1 (Nat.le_of_ble_eq_true rfl) (fun _ => rfl) (fun x2 => ?_)
          refine zs_goto (tgt := 51) dX7_read_80 (by decide) ?_
          refine zs_sub [1, 0] rfl ?_
          exact ih _ _
def f_X7_read  (p2 : Int32) (m : zz_Mem) : Option zz_Mem :=
  zz_letM (zz_setR m 30 1 (some 1)) fun m1 =>
  zz_bndR (f_J9_min_7cf53 p2 (900 : Int32)) fun r2 =>
  zz_bndR (f_J9_max_7cf53 (0 : Int32) r2) fun r3 =>
  zz_letM (zz_setI m1 30 2 r3) fun m4 =>
  zz_letM (zz_setI m4 30 3 (0 : Int32)) fun m5 =>
  zz_letM (zz_setI m5 30 7 (0 : Int32)) fun m6 =>
  zz_letM (zz_setI m6 30 8 (-1 : Int32)) fun m7 =>
  zz_bndR (f_X6_clear m7) fun m8 =>
  zz_bndR (f_X7_next m8) fun m9 =>
  zz_bndR (f_X7_readHead m9) fun m10 =>
  f_X7_read_51 zz_fuel (0 : Int32) m10
theorem k_X7_read {l : Launch} {G : zz_G} (hN : 107 ≤ zz_N G) : ∀ (p2 : Int32) (m : zz_Mem), zz_Con zz_sh l G mX7_read 70 [.ref (zz_a G 30), .ref (zz_a G 1), .int p2] zz_vV zz_mV (f_X7_read p2 m) m := by
  intro p2 m
  refine zz_con (lv := [(0, .ref (zz_a G 30)), (1, .ref (zz_a G 1)), (2, .int p2)]) (by decide +kernel) (Nat.le_of_ble_eq_true rfl) rfl ?_
  unfold f_X7_read
  refine zs_aload_n dX7_read_0 rfl 0 rfl ?_
  refine zs_aload_n dX7_read_1 rfl 1 rfl ?_
  refine zs_putQ fl_X7_9 dX7_read_2 (sh_30 hN) rfl ⟨rfl, rfl⟩ (fun m1 => ?_)
  refine zs_aload_n dX7_read_5 rfl 0 rfl ?_
  refine zs_iconst (v := (0 : Int32)) dX7_read_6 ci_0 ?_
  refine zs_iload_n dX7_read_7 rfl 2 rfl ?_
  refine zs_aload_n dX7_read_8 rfl 1 rfl ?_
  refine zs_alen2 (v := (900 : Int32)) dX7_read_9 (sh_1 hN) al_900 ?_
  refine zs_cS_iR (rest := [.int (0 : Int32), .ref (zz_a G 30)]) (k_J9_min_7cf53 hN _ _ _) dX7_read_10 ls_X7_23 ok_J9_min_7cf53 (Nat.le_of_ble_eq_true rfl) rfl rfl (Nat.le_of_ble_eq_true rfl) (fun r2 => ?_)
  refine zs_cS_iR (rest := [.ref (zz_a G 30)]) (k_J9_max_7cf53 hN _ _ _) dX7_read_13 ls_X7_29 ok_J9_max_7cf53 (Nat.le_of_ble_eq_true rfl) rfl rfl (Nat.le_of_ble_eq_true rfl) (fun r3 => ?_)
  refine zs_putI fl_X7_32 dX7_read_16 (sh_30 hN) rfl ⟨rfl, rfl⟩ (fun m4 => ?_)
  refine zs_aload_n dX7_read_19 rfl 0 rfl ?_
  refine zs_iconst (v := (0 : Int32)) dX7_read_20 ci_0 ?_
  refine zs_putI fl_X7_35 dX7_read_21 (sh_30 hN) rfl ⟨rfl, rfl⟩ (fun m5 => ?_)
  refine zs_aload_n dX7_read_24 rfl 0 rfl ?_
  refine zs_iconst (v := (0 : Int32)) dX7_read_25 ci_0 ?_
  refine zs_putI fl_X7_38 dX7_read_26 (sh_30 hN) rfl ⟨rfl, rfl⟩ (fun m6 => ?_)
  refine zs_aload_n dX7_read_29 rfl 0 rfl ?_
  refine zs_iconst (v := (-1 : Int32)) dX7_read_30 ci_m1 ?_
  refine zs_putI fl_X7_15 dX7_read_31 (sh_30 hN) rfl ⟨rfl, rfl⟩ (fun m7 => ?_)
  refine zs_aload_n dX7_read_34 rfl 0 rfl ?_
  refine zs_getR fl_X7_19 dX7_read_35 (sh_30 hN) rfl ?_
  refine zs_cV_vW (rest := []) (k_X6_clear hN  _) dX7_read_38 lv_X7_41 ok_X6_clear (zz_rcv_o (sh_16 hN) rfl) (Nat.le_of_ble_eq_true rfl) rfl rfl (Nat.le_of_ble_eq_true rfl) (fun m8 => ?_)
  refine zs_aload_n dX7_read_41 rfl 0 rfl ?_
  refine zs_cV_vW (rest := []) (k_X7_next hN  _) dX7_read_42 lv_X7_46 ok_X7_next (zz_rcv_o (sh_30 hN) rfl) (Nat.le_of_ble_eq_true rfl) rfl rfl (Nat.le_of_ble_eq_true rfl) (fun m9 => ?_)
  refine zs_aload_n dX7_read_45 rfl 0 rfl ?_
  refine zs_cV_vW (rest := []) (k_X7_readHead hN  _) dX7_read_46 lv_X7_49 ok_X7_readHead (zz_rcv_o (sh_30 hN) rfl) (Nat.le_of_ble_eq_true rfl) rfl rfl (Nat.le_of_ble_eq_true rfl) (fun m10 => ?_)
  refine zs_iconst (v := (0 : Int32)) dX7_read_49 ci_0 ?_
  refine zs_istore_n [(3, .int (0 : Int32)), (0, .ref (zz_a G 30)), (1, .ref (zz_a G 1)), (2, .int p2)] dX7_read_50 rfl (Nat.le_of_ble_eq_true rfl) rfl ?_
  refine zs_sub [1, 0] rfl ?_
  exact t_X7_read_51 hN zz_fuel _ _
