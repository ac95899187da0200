/-! ===== models and walks: 12.dates ===== -/
/-! X0_forget: PillarDesk$Calendar.forget()V -/
theorem dX0_forget_0 : decode cX0_forget 0 = .ok (.aload_n 0, 1) := by decide +kernel
theorem dX0_forget_1 : decode cX0_forget 1 = .ok (.getfield 7, 3) := by decide +kernel
theorem dX0_forget_4 : decode cX0_forget 4 = .ok (.iconst 0, 1) := by decide +kernel
theorem dX0_forget_5 : decode cX0_forget 5 = .ok (.invokestatic 17, 3) := by decide +kernel
theorem dX0_forget_8 : decode cX0_forget 8 = .ok (.return_, 1) := by decide +kernel
def f_X0_forget   (m : zz_Mem) : Option zz_Mem :=
  zz_bndR (f_J7_fill_031fb (0 : Int32) m) fun m1 =>
  some m1
theorem k_X0_forget {l : Launch} {G : zz_G} (hN : 107 ≤ zz_N G) : ∀ (m : zz_Mem), zz_Con zz_sh l G mX0_forget 1 [.ref (zz_a G 81)] zz_vV zz_mV (f_X0_forget m) m := by
  intro m
  refine zz_con (lv := [(0, .ref (zz_a G 81))]) (by decide +kernel) (Nat.le_of_ble_eq_true rfl) rfl ?_
  unfold f_X0_forget
  refine zs_aload_n dX0_forget_0 rfl 0 rfl ?_
  refine zs_getR fl_X0_7 dX0_forget_1 (sh_81 hN) rfl ?_
  refine zs_iconst (v := (0 : Int32)) dX0_forget_4 ci_0 ?_
  refine zs_cS_vW (rest := []) (k_J7_fill_031fb hN _ _) dX0_forget_5 ls_X0_17 ok_J7_fill_031fb (Nat.le_of_ble_eq_true rfl) rfl rfl (Nat.le_of_ble_eq_true rfl) (fun m1 => ?_)
  exact zs_vret dX0_forget_8 rfl rfl rfl
/-! X0_isOpenByRule: PillarDesk$Calendar.isOpenByRule(I)Z -/
theorem dX0_isOpenByRule_0 : decode cX0_isOpenByRule 0 = .ok (.aload_n 0, 1) := by decide +kernel
theorem dX0_isOpenByRule_1 : decode cX0_isOpenByRule 1 = .ok (.getfield 13, 3) := by decide +kernel
theorem dX0_isOpenByRule_4 : decode cX0_isOpenByRule 4 = .ok (.getfield 27, 3) := by decide +kernel
theorem dX0_isOpenByRule_7 : decode cX0_isOpenByRule 7 = .ok (.iload_n 1, 1) := by decide +kernel
theorem dX0_isOpenByRule_8 : decode cX0_isOpenByRule 8 = .ok (.iadd, 1) := by decide +kernel
theorem dX0_isOpenByRule_9 : decode cX0_isOpenByRule 9 = .ok (.bipush 7, 2) := by decide +kernel
theorem dX0_isOpenByRule_11 : decode cX0_isOpenByRule 11 = .ok (.invokestatic 33, 3) := by decide +kernel
theorem dX0_isOpenByRule_14 : decode cX0_isOpenByRule 14 = .ok (.istore_n 2, 1) := by decide +kernel
theorem dX0_isOpenByRule_15 : decode cX0_isOpenByRule 15 = .ok (.aload_n 0, 1) := by decide +kernel
theorem dX0_isOpenByRule_16 : decode cX0_isOpenByRule 16 = .ok (.getfield 13, 3) := by decide +kernel
theorem dX0_isOpenByRule_19 : decode cX0_isOpenByRule 19 = .ok (.iload_n 1, 1) := by decide +kernel
theorem dX0_isOpenByRule_20 : decode cX0_isOpenByRule 20 = .ok (.invokevirtual 39, 3) := by decide +kernel
theorem dX0_isOpenByRule_23 : decode cX0_isOpenByRule 23 = .ok (.istore_n 3, 1) := by decide +kernel
theorem dX0_isOpenByRule_24 : decode cX0_isOpenByRule 24 = .ok (.aload_n 0, 1) := by decide +kernel
theorem dX0_isOpenByRule_25 : decode cX0_isOpenByRule 25 = .ok (.getfield 13, 3) := by decide +kernel
theorem dX0_isOpenByRule_28 : decode cX0_isOpenByRule 28 = .ok (.getfield 42, 3) := by decide +kernel
theorem dX0_isOpenByRule_31 : decode cX0_isOpenByRule 31 = .ok (.astore 4, 2) := by decide +kernel
theorem dX0_isOpenByRule_33 : decode cX0_isOpenByRule 33 = .ok (.aload 4, 2) := by decide +kernel
theorem dX0_isOpenByRule_35 : decode cX0_isOpenByRule 35 = .ok (.invokevirtual 46, 3) := by decide +kernel
theorem dX0_isOpenByRule_38 : decode cX0_isOpenByRule 38 = .ok (.ifCond .ne 18, 3) := by decide +kernel
theorem dX0_isOpenByRule_41 : decode cX0_isOpenByRule 41 = .ok (.iload_n 2, 1) := by decide +kernel
theorem dX0_isOpenByRule_42 : decode cX0_isOpenByRule 42 = .ok (.iconst 5, 1) := by decide +kernel
theorem dX0_isOpenByRule_43 : decode cX0_isOpenByRule 43 = .ok (.if_icmp .ge 11, 3) := by decide +kernel
theorem dX0_isOpenByRule_46 : decode cX0_isOpenByRule 46 = .ok (.iload_n 3, 1) := by decide +kernel
theorem dX0_isOpenByRule_47 : decode cX0_isOpenByRule 47 = .ok (.ifCond .ne 7, 3) := by decide +kernel
theorem dX0_isOpenByRule_50 : decode cX0_isOpenByRule 50 = .ok (.iconst 1, 1) := by decide +kernel
theorem dX0_isOpenByRule_51 : decode cX0_isOpenByRule 51 = .ok (.goto 4, 3) := by decide +kernel
theorem dX0_isOpenByRule_54 : decode cX0_isOpenByRule 54 = .ok (.iconst 0, 1) := by decide +kernel
theorem dX0_isOpenByRule_55 : decode cX0_isOpenByRule 55 = .ok (.ireturn, 1) := by decide +kernel
theorem dX0_isOpenByRule_56 : decode cX0_isOpenByRule 56 = .ok (.aload 4, 2) := by decide +kernel
theorem dX0_isOpenByRule_58 : decode cX0_isOpenByRule 58 = .ok (.getfield 52, 3) := by decide +kernel
theorem dX0_isOpenByRule_61 : decode cX0_isOpenByRule 61 = .ok (.iconst 0, 1) := by decide +kernel
theorem dX0_isOpenByRule_62 : decode cX0_isOpenByRule 62 = .ok (.iload_n 2, 1) := by decide +kernel
theorem dX0_isOpenByRule_63 : decode cX0_isOpenByRule 63 = .ok (.iastore, 1) := by decide +kernel
theorem dX0_isOpenByRule_64 : decode cX0_isOpenByRule 64 = .ok (.aload 4, 2) := by decide +kernel
theorem dX0_isOpenByRule_66 : decode cX0_isOpenByRule 66 = .ok (.getfield 52, 3) := by decide +kernel
theorem dX0_isOpenByRule_69 : decode cX0_isOpenByRule 69 = .ok (.iconst 1, 1) := by decide +kernel
theorem dX0_isOpenByRule_70 : decode cX0_isOpenByRule 70 = .ok (.iload_n 3, 1) := by decide +kernel
theorem dX0_isOpenByRule_71 : decode cX0_isOpenByRule 71 = .ok (.ifCond .eq 7, 3) := by decide +kernel
theorem dX0_isOpenByRule_74 : decode cX0_isOpenByRule 74 = .ok (.iconst 1, 1) := by decide +kernel
theorem dX0_isOpenByRule_75 : decode cX0_isOpenByRule 75 = .ok (.goto 4, 3) := by decide +kernel
theorem dX0_isOpenByRule_78 : decode cX0_isOpenByRule 78 = .ok (.iconst 0, 1) := by decide +kernel
theorem dX0_isOpenByRule_79 : decode cX0_isOpenByRule 79 = .ok (.iastore, 1) := by decide +kernel
theorem dX0_isOpenByRule_80 : decode cX0_isOpenByRule 80 = .ok (.aload 4, 2) := by decide +kernel
theorem dX0_isOpenByRule_82 : decode cX0_isOpenByRule 82 = .ok (.getfield 52, 3) := by decide +kernel
theorem dX0_isOpenByRule_85 : decode cX0_isOpenByRule 85 = .ok (.iconst 2, 1) := by decide +kernel
theorem dX0_isOpenByRule_86 : decode cX0_isOpenByRule 86 = .ok (.iload_n 1, 1) := by decide +kernel
theorem dX0_isOpenByRule_87 : decode cX0_isOpenByRule 87 = .ok (.iastore, 1) := by decide +kernel
theorem dX0_isOpenByRule_88 : decode cX0_isOpenByRule 88 = .ok (.aload 4, 2) := by decide +kernel
theorem dX0_isOpenByRule_90 : decode cX0_isOpenByRule 90 = .ok (.aload 4, 2) := by decide +kernel
theorem dX0_isOpenByRule_92 : decode cX0_isOpenByRule 92 = .ok (.getfield 56, 3) := by decide +kernel
theorem dX0_isOpenByRule_95 : decode cX0_isOpenByRule 95 = .ok (.aload 4, 2) := by decide +kernel
theorem dX0_isOpenByRule_97 : decode cX0_isOpenByRule 97 = .ok (.getfield 59, 3) := by decide +kernel
theorem dX0_isOpenByRule_100 : decode cX0_isOpenByRule 100 = .ok (.invokevirtual 62, 3) := by decide +kernel
theorem dX0_isOpenByRule_103 : decode cX0_isOpenByRule 103 = .ok (.ifCond .eq 7, 3) := by decide +kernel
theorem dX0_isOpenByRule_106 : decode cX0_isOpenByRule 106 = .ok (.iconst 1, 1) := by decide +kernel
theorem dX0_isOpenByRule_107 : decode cX0_isOpenByRule 107 = .ok (.goto 4, 3) := by decide +kernel
theorem dX0_isOpenByRule_110 : decode cX0_isOpenByRule 110 = .ok (.iconst 0, 1) := by decide +kernel
theorem dX0_isOpenByRule_111 : decode cX0_isOpenByRule 111 = .ok (.ireturn, 1) := by decide +kernel
def f_X0_isOpenByRule_79   (v1 : Int32) (s0 : Int32) (s1 : Int32) (m : zz_Mem) : Option (Int32 × zz_Mem) :=
  zz_ix s1 5 <| zz_letM (zz_setI m 11 s1.toNatClampNeg s0) fun m1 =>
  zz_letM (zz_setI m1 11 2 v1) fun m2 =>
  zz_bnd (f_X3_value (m2.1 9 6) (m2.1 9 7) m2) fun r3 m4 =>
  if r3 = 0 then (
  some ((0 : Int32), m4))
  else (
  some ((1 : Int32), m4))
theorem t_X0_isOpenByRule_79 {l : Launch} {G : zz_G} (hN : 107 ≤ zz_N G)  : ∀ (v1 : Int32) (s0 : Int32) (s1 : Int32) (m : zz_Mem), zz_Sim zz_sh l G mX0_isOpenByRule 2 zz_vI zz_m2 (f_X0_isOpenByRule_79 v1 s0 s1 m) 79 [(1, .int v1), (4, .ref (zz_a G 9))] [.int s0, .int s1, .ref (zz_a G 11)] m := by
  intro v1 s0 s1 m
  unfold f_X0_isOpenByRule_79
  refine zs_iastG dX0_isOpenByRule_79 (sh_11 hN) (fun m1 => ?_)
  refine zs_aload dX0_isOpenByRule_80 1 rfl ?_
  refine zs_getR fl_X0_52 dX0_isOpenByRule_82 (sh_9 hN) rfl ?_
  refine zs_iconst (v := (2 : Int32)) dX0_isOpenByRule_85 ci_2 ?_
  refine zs_iload_n dX0_isOpenByRule_86 rfl 0 rfl ?_
  refine zs_iastC dX0_isOpenByRule_87 (sh_11 hN) vin_2_5 clp_2 (fun m2 => ?_)
  refine zs_aload dX0_isOpenByRule_88 1 rfl ?_
  refine zs_aload dX0_isOpenByRule_90 1 rfl ?_
  refine zs_getI fl_X0_56 dX0_isOpenByRule_92 (sh_9 hN) rfl ?_
  refine zs_aload dX0_isOpenByRule_95 1 rfl ?_
  refine zs_getI fl_X0_59 dX0_isOpenByRule_97 (sh_9 hN) rfl ?_
  refine zs_cV_iW (rest := []) (k_X3_value hN _ _ _) dX0_isOpenByRule_100 lv_X0_62 ok_X3_value (zz_rcv_o (sh_9 hN) rfl) (Nat.le_of_ble_eq_true rfl) rfl rfl (Nat.le_of_ble_eq_true rfl) (fun r3 m4 => ?_)
  refine zs_if_eq (tgt := 110) dX0_isOpenByRule_103 (by decide) ?_ ?_
  · refine zs_iconst (v := (0 : Int32)) dX0_isOpenByRule_110 ci_0 ?_
    exact zs_zret dX0_isOpenByRule_111 rfl rfl rfl rfl
  · refine zs_iconst (v := (1 : Int32)) dX0_isOpenByRule_106 ci_1 ?_
    refine zs_goto (tgt := 111) dX0_isOpenByRule_107 (by decide) ?_
    exact zs_zret dX0_isOpenByRule_111 rfl rfl rfl rfl
def f_X0_isOpenByRule  (p1 : Int32) (m : zz_Mem) : Option (Int32 × zz_Mem) :=
  zz_bndR (f_J9_floorMod_7cf53 ((m.1 2 0) + p1) (7 : Int32)) fun r1 =>
  zz_bndR (f_X6_isHoliday m p1) fun r2 =>
  zz_bndR (f_X3_hasOpens m) fun r3 =>
  if r3 = 0 then (
  if (5 : Int32) ≤ r1 then (
  some ((0 : Int32), m))
  else (
  if r2 = 0 then (
  some ((1 : Int32), m))
  else (
  some ((0 : Int32), m))))
  else (
  zz_letM (zz_setI m 11 0 r1) fun m4 =>
  if r2 = 0 then (
  f_X0_isOpenByRule_79 p1 (0 : Int32) (1 : Int32) m4)
  else (
  f_X0_isOpenByRule_79 p1 (1 : Int32) (1 : Int32) m4))
theorem k_X0_isOpenByRule {l : Launch} {G : zz_G} (hN : 107 ≤ zz_N G) : ∀ (p1 : Int32) (m : zz_Mem), zz_Con zz_sh l G mX0_isOpenByRule 2 [.ref (zz_a G 81), .int p1] zz_vI zz_m2 (f_X0_isOpenByRule p1 m) m := by
  intro p1 m
  refine zz_con (lv := [(0, .ref (zz_a G 81)), (1, .int p1)]) (by decide +kernel) (Nat.le_of_ble_eq_true rfl) rfl ?_
  unfold f_X0_isOpenByRule
  refine zs_aload_n dX0_isOpenByRule_0 rfl 0 rfl ?_
  refine zs_getR fl_X0_13 dX0_isOpenByRule_1 (sh_81 hN) rfl ?_
  refine zs_getI fl_X0_27 dX0_isOpenByRule_4 (sh_2 hN) rfl ?_
  refine zs_iload_n dX0_isOpenByRule_7 rfl 1 rfl ?_
  refine zs_iadd dX0_isOpenByRule_8 ?_
  refine zs_bipush (v := (7 : Int32)) dX0_isOpenByRule_9 cb_7 ?_
  refine zs_cS_iR (rest := []) (k_J9_floorMod_7cf53 hN _ _ _) dX0_isOpenByRule_11 ls_X0_33 ok_J9_floorMod_7cf53 (Nat.le_of_ble_eq_true rfl) rfl rfl (Nat.le_of_ble_eq_true rfl) (fun r1 => ?_)
  refine zs_istore_n [(2, .int r1), (0, .ref (zz_a G 81)), (1, .int p1)] dX0_isOpenByRule_14 rfl (Nat.le_of_ble_eq_true rfl) rfl ?_
  refine zs_aload_n dX0_isOpenByRule_15 rfl 1 rfl ?_
  refine zs_getR fl_X0_13 dX0_isOpenByRule_16 (sh_81 hN) rfl ?_
  refine zs_iload_n dX0_isOpenByRule_19 rfl 2 rfl ?_
  refine zs_cV_iR (rest := []) (k_X6_isHoliday hN _ _) dX0_isOpenByRule_20 lv_X0_39 ok_X6_isHoliday (zz_rcv_o (sh_2 hN) rfl) (Nat.le_of_ble_eq_true rfl) rfl rfl (Nat.le_of_ble_eq_true rfl) (fun r2 => ?_)
  refine zs_istore_n [(3, .int r2), (2, .int r1), (0, .ref (zz_a G 81)), (1, .int p1)] dX0_isOpenByRule_23 rfl (Nat.le_of_ble_eq_true rfl) rfl ?_
  refine zs_aload_n dX0_isOpenByRule_24 rfl 2 rfl ?_
  refine zs_getR fl_X0_13 dX0_isOpenByRule_25 (sh_81 hN) rfl ?_
  refine zs_getR fl_X0_42 dX0_isOpenByRule_28 (sh_2 hN) rfl ?_
  refine zs_astore [(4, .ref (zz_a G 9)), (3, .int r2), (2, .int r1), (0, .ref (zz_a G 81)), (1, .int p1)] dX0_isOpenByRule_31 (Nat.le_of_ble_eq_true rfl) rfl ?_
  refine zs_aload dX0_isOpenByRule_33 0 rfl ?_
  refine zs_cV_iR (rest := []) (k_X3_hasOpens hN  _) dX0_isOpenByRule_35 lv_X0_46 ok_X3_hasOpens (zz_rcv_o (sh_9 hN) rfl) (Nat.le_of_ble_eq_true rfl) rfl rfl (Nat.le_of_ble_eq_true rfl) (fun r3 => ?_)
  refine zs_if_ne (tgt := 56) dX0_isOpenByRule_38 (by decide) ?_ ?_
  · refine zs_aload dX0_isOpenByRule_56 0 rfl ?_
    refine zs_getR fl_X0_52 dX0_isOpenByRule_58 (sh_9 hN) rfl ?_
    refine zs_iconst (v := (0 : Int32)) dX0_isOpenByRule_61 ci_0 ?_
    refine zs_iload_n dX0_isOpenByRule_62 rfl 2 rfl ?_
    refine zs_iastC dX0_isOpenByRule_63 (sh_11 hN) vin_0_5 clp_0 (fun m4 => ?_)
    refine zs_aload dX0_isOpenByRule_64 0 rfl ?_
    refine zs_getR fl_X0_52 dX0_isOpenByRule_66 (sh_9 hN) rfl ?_
    refine zs_iconst (v := (1 : Int32)) dX0_isOpenByRule_69 ci_1 ?_
    refine zs_iload_n dX0_isOpenByRule_70 rfl 1 rfl ?_
    refine zs_if_eq (tgt := 78) dX0_isOpenByRule_71 (by decide) ?_ ?_
    · refine zs_iconst (v := (0 : Int32)) dX0_isOpenByRule_78 ci_0 ?_
      refine zs_sub [4, 0] rfl ?_
      exact t_X0_isOpenByRule_79 hN _ _ _ _
    · refine zs_iconst (v := (1 : Int32)) dX0_isOpenByRule_74 ci_1 ?_
      refine zs_goto (tgt := 79) dX0_isOpenByRule_75 (by decide) ?_
      refine zs_sub [4, 0] rfl ?_
      exact t_X0_isOpenByRule_79 hN _ _ _ _
  · refine zs_iload_n dX0_isOpenByRule_41 rfl 2 rfl ?_
    refine zs_iconst (v := (5 : Int32)) dX0_isOpenByRule_42 ci_5 ?_
    refine zs_icmp_ge (tgt := 54) dX0_isOpenByRule_43 (by decide) ?_ ?_
    · refine zs_iconst (v := (0 : Int32)) dX0_isOpenByRule_54 ci_0 ?_
      exact zs_zret dX0_isOpenByRule_55 rfl rfl rfl rfl
    · refine zs_iload_n dX0_isOpenByRule_46 rfl 1 rfl ?_
      refine zs_if_ne (tgt := 54) dX0_isOpenByRule_47 (by decide) ?_ ?_
      · refine zs_iconst (v := (0 : Int32)) dX0_isOpenByRule_54 ci_0 ?_
        exact zs_zret dX0_isOpenByRule_55 rfl rfl rfl rfl
      · refine zs_iconst (v := (1 : Int32)) dX0_isOpenByRule_50 ci_1 ?_
        refine zs_goto (tgt := 55) dX0_isOpenByRule_51 (by decide) ?_
        exact zs_zret dX0_isOpenByRule_55 rfl rfl rfl rfl
/-! X0_isOpen: PillarDesk$Calendar.isOpen(I)Z -/
theorem dX0_isOpen_0 : decode cX0_isOpen 0 = .ok (.iload_n 1, 1) := by decide +kernel
theorem dX0_isOpen_1 : decode cX0_isOpen 1 = .ok (.ifCond .lt 16, 3) := by decide +kernel
theorem dX0_isOpen_4 : decode cX0_isOpen 4 = .ok (.iload_n 1, 1) := by decide +kernel
theorem dX0_isOpen_5 : decode cX0_isOpen 5 = .ok (.aload_n 0, 1) := by decide +kernel
theorem dX0_isOpen_6 : decode cX0_isOpen 6 = .ok (.getfield 7, 3) := by decide +kernel
theorem dX0_isOpen_9 : decode cX0_isOpen 9 = .ok (.arraylength, 1) := by decide +kernel
theorem dX0_isOpen_10 : decode cX0_isOpen 10 = .ok (.if_icmp .ge 7, 3) := by decide +kernel
theorem dX0_isOpen_13 : decode cX0_isOpen 13 = .ok (.iconst 1, 1) := by decide +kernel
theorem dX0_isOpen_14 : decode cX0_isOpen 14 = .ok (.goto 4, 3) := by decide +kernel
theorem dX0_isOpen_17 : decode cX0_isOpen 17 = .ok (.iconst 0, 1) := by decide +kernel
theorem dX0_isOpen_18 : decode cX0_isOpen 18 = .ok (.istore_n 2, 1) := by decide +kernel
theorem dX0_isOpen_19 : decode cX0_isOpen 19 = .ok (.iload_n 2, 1) := by decide +kernel
theorem dX0_isOpen_20 : decode cX0_isOpen 20 = .ok (.ifCond .eq 28, 3) := by decide +kernel
theorem dX0_isOpen_23 : decode cX0_isOpen 23 = .ok (.aload_n 0, 1) := by decide +kernel
theorem dX0_isOpen_24 : decode cX0_isOpen 24 = .ok (.getfield 7, 3) := by decide +kernel
theorem dX0_isOpen_27 : decode cX0_isOpen 27 = .ok (.iload_n 1, 1) := by decide +kernel
theorem dX0_isOpen_28 : decode cX0_isOpen 28 = .ok (.baload, 1) := by decide +kernel
theorem dX0_isOpen_29 : decode cX0_isOpen 29 = .ok (.ifCond .eq 19, 3) := by decide +kernel
theorem dX0_isOpen_32 : decode cX0_isOpen 32 = .ok (.aload_n 0, 1) := by decide +kernel
theorem dX0_isOpen_33 : decode cX0_isOpen 33 = .ok (.getfield 7, 3) := by decide +kernel
theorem dX0_isOpen_36 : decode cX0_isOpen 36 = .ok (.iload_n 1, 1) := by decide +kernel
theorem dX0_isOpen_37 : decode cX0_isOpen 37 = .ok (.baload, 1) := by decide +kernel
theorem dX0_isOpen_38 : decode cX0_isOpen 38 = .ok (.iconst 2, 1) := by decide +kernel
theorem dX0_isOpen_39 : decode cX0_isOpen 39 = .ok (.if_icmp .ne 7, 3) := by decide +kernel
theorem dX0_isOpen_42 : decode cX0_isOpen 42 = .ok (.iconst 1, 1) := by decide +kernel
theorem dX0_isOpen_43 : decode cX0_isOpen 43 = .ok (.goto 4, 3) := by decide +kernel
theorem dX0_isOpen_46 : decode cX0_isOpen 46 = .ok (.iconst 0, 1) := by decide +kernel
theorem dX0_isOpen_47 : decode cX0_isOpen 47 = .ok (.ireturn, 1) := by decide +kernel
theorem dX0_isOpen_48 : decode cX0_isOpen 48 = .ok (.aload_n 0, 1) := by decide +kernel
theorem dX0_isOpen_49 : decode cX0_isOpen 49 = .ok (.iload_n 1, 1) := by decide +kernel
theorem dX0_isOpen_50 : decode cX0_isOpen 50 = .ok (.invokevirtual 23, 3) := by decide +kernel
theorem dX0_isOpen_53 : decode cX0_isOpen 53 = .ok (.istore_n 3, 1) := by decide +kernel
theorem dX0_isOpen_54 : decode cX0_isOpen 54 = .ok (.iload_n 2, 1) := by decide +kernel
theorem dX0_isOpen_55 : decode cX0_isOpen 55 = .ok (.ifCond .eq 19, 3) := by decide +kernel
theorem dX0_isOpen_58 : decode cX0_isOpen 58 = .ok (.aload_n 0, 1) := by decide +kernel
theorem dX0_isOpen_59 : decode cX0_isOpen 59 = .ok (.getfield 7, 3) := by decide +kernel
theorem dX0_isOpen_62 : decode cX0_isOpen 62 = .ok (.iload_n 1, 1) := by decide +kernel
theorem dX0_isOpen_63 : decode cX0_isOpen 63 = .ok (.iload_n 3, 1) := by decide +kernel
theorem dX0_isOpen_64 : decode cX0_isOpen 64 = .ok (.ifCond .eq 7, 3) := by decide +kernel
theorem dX0_isOpen_67 : decode cX0_isOpen 67 = .ok (.iconst 2, 1) := by decide +kernel
theorem dX0_isOpen_68 : decode cX0_isOpen 68 = .ok (.goto 4, 3) := by decide +kernel
theorem dX0_isOpen_71 : decode cX0_isOpen 71 = .ok (.iconst 1, 1) := by decide +kernel
theorem dX0_isOpen_72 : decode cX0_isOpen 72 = .ok (.i2b, 1) := by decide +kernel
theorem dX0_isOpen_73 : decode cX0_isOpen 73 = .ok (.bastore, 1) := by decide +kernel
theorem dX0_isOpen_74 : decode cX0_isOpen 74 = .ok (.iload_n 3, 1) := by decide +kernel
theorem dX0_isOpen_75 : decode cX0_isOpen 75 = .ok (.ireturn, 1) := by decide +kernel
def f_X0_isOpen_72   (v3 : Int32) (s0 : Int32) (s1 : Int32) (m : zz_Mem) : Option (Int32 × zz_Mem) :=
  zz_ix s1 2048 <| zz_letM (zz_setI m 82 s1.toNatClampNeg (vp_nar .byte s0.toInt8.toInt32)) fun m1 =>
  zz_bo v3 (some (v3, m1))
theorem t_X0_isOpen_72 {l : Launch} {G : zz_G} (hN : 107 ≤ zz_N G)  : ∀ (v3 : Int32) (s0 : Int32) (s1 : Int32) (m : zz_Mem), zz_Sim zz_sh l G mX0_isOpen 3 zz_vI zz_m2 (f_X0_isOpen_72 v3 s0 s1 m) 72 [(3, .int v3)] [.int s0, .int s1, .ref (zz_a G 82)] m := by
  intro v3 s0 s1 m
  unfold f_X0_isOpen_72
  refine zs_i2b dX0_isOpen_72 ?_
  refine zs_bastG dX0_isOpen_73 (sh_82 hN) (fun m1 => ?_)
  refine zs_iload_n dX0_isOpen_74 rfl 0 rfl ?_
  exact zs_bret dX0_isOpen_75 rfl rfl rfl
def f_X0_isOpen_48   (v1 : Int32) (v2 : Int32) (m : zz_Mem) : Option (Int32 × zz_Mem) :=
  zz_bnd (f_X0_isOpenByRule v1 m) fun r1 m2 =>
  if v2 = 0 then (
  zz_bo r1 (some (r1, m2)))
  else (
  if r1 = 0 then (
  f_X0_isOpen_72 r1 (1 : Int32) v1 m2)
  else (
  f_X0_isOpen_72 r1 (2 : Int32) v1 m2))
theorem t_X0_isOpen_48 {l : Launch} {G : zz_G} (hN : 107 ≤ zz_N G)  : ∀ (v1 : Int32) (v2 : Int32) (m : zz_Mem), zz_Sim zz_sh l G mX0_isOpen 3 zz_vI zz_m2 (f_X0_isOpen_48 v1 v2 m) 48 [(0, .ref (zz_a G 81)), (1, .int v1), (2, .int v2)] [] m := by
  intro v1 v2 m
  unfold f_X0_isOpen_48
  refine zs_aload_n dX0_isOpen_48 rfl 0 rfl ?_
  refine zs_iload_n dX0_isOpen_49 rfl 1 rfl ?_
  refine zs_cV_iW (rest := []) (k_X0_isOpenByRule hN _ _) dX0_isOpen_50 lv_X0_23 ok_X0_isOpenByRule (zz_rcv_o (sh_81 hN) rfl) (Nat.le_of_ble_eq_true rfl) rfl rfl (Nat.le_of_ble_eq_true rfl) (fun r1 m2 => ?_)
  refine zs_istore_n [(3, .int r1), (0, .ref (zz_a G 81)), (1, .int v1), (2, .int v2)] dX0_isOpen_53 rfl (Nat.le_of_ble_eq_true rfl) rfl ?_
  refine zs_iload_n dX0_isOpen_54 rfl 3 rfl ?_
  refine zs_if_eq (tgt := 74) dX0_isOpen_55 (by decide) ?_ ?_
  · refine zs_iload_n dX0_isOpen_74 rfl 0 rfl ?_
    exact zs_bret dX0_isOpen_75 rfl rfl rfl
  · refine zs_aload_n dX0_isOpen_58 rfl 1 rfl ?_
    refine zs_getR fl_X0_7 dX0_isOpen_59 (sh_81 hN) rfl ?_
    refine zs_iload_n dX0_isOpen_62 rfl 2 rfl ?_
    refine zs_iload_n dX0_isOpen_63 rfl 0 rfl ?_
    refine zs_if_eq (tgt := 71) dX0_isOpen_64 (by decide) ?_ ?_
    · refine zs_iconst (v := (1 : Int32)) dX0_isOpen_71 ci_1 ?_
      refine zs_sub [0] rfl ?_
      exact t_X0_isOpen_72 hN _ _ _ _
    · refine zs_iconst (v := (2 : Int32)) dX0_isOpen_67 ci_2 ?_
      refine zs_goto (tgt := 72) dX0_isOpen_68 (by decide) ?_
      refine zs_sub [0] rfl ?_
      exact t_X0_isOpen_72 hN _ _ _ _
def f_X0_isOpen_18   (v1 : Int32) (s0 : Int32) (m : zz_Mem) : Option (Int32 × zz_Mem) :=
  if s0 = 0 then (
  f_X0_isOpen_48 v1 s0 m)
  else (
  zz_ix v1 2048 <|
  if (m.1 82 v1.toNatClampNeg) = 0 then (
  f_X0_isOpen_48 v1 s0 m)
  else (
  zz_ix v1 2048 <|
  if (m.1 82 v1.toNatClampNeg) = (2 : Int32) then (
  some ((1 : Int32), m))
  else (
  some ((0 : Int32), m))))
theorem t_X0_isOpen_18 {l : Launch} {G : zz_G} (hN : 107 ≤ zz_N G)  : ∀ (v1 : Int32) (s0 : Int32) (m : zz_Mem), zz_Sim zz_sh l G mX0_isOpen 3 zz_vI zz_m2 (f_X0_isOpen_18 v1 s0 m) 18 [(0, .ref (zz_a G 81)), (1, .int v1)] [.int s0] m := by
  intro v1 s0 m
  unfold f_X0_isOpen_18
  refine zs_istore_n [(2, .int s0), (0, .ref (zz_a G 81)), (1, .int v1)] dX0_isOpen_18 rfl (Nat.le_of_ble_eq_true rfl) rfl ?_
  refine zs_iload_n dX0_isOpen_19 rfl 0 rfl ?_
  refine zs_if_eq (tgt := 48) dX0_isOpen_20 (by decide) ?_ ?_
  · refine zs_sub [1, 2, 0] rfl ?_
    exact t_X0_isOpen_48 hN _ _ _
  · refine zs_aload_n dX0_isOpen_23 rfl 1 rfl ?_
    refine zs_getR fl_X0_7 dX0_isOpen_24 (sh_81 hN) rfl ?_
    refine zs_iload_n dX0_isOpen_27 rfl 2 rfl ?_
    refine zs_baldG dX0_isOpen_28 (sh_82 hN) ?_
    refine zs_if_eq (tgt := 48) dX0_isOpen_29 (by decide) ?_ ?_
    · refine zs_sub [1, 2, 0] rfl ?_
      exact t_X0_isOpen_48 hN _ _ _
    · refine zs_aload_n dX0_isOpen_32 rfl 1 rfl ?_
      refine zs_getR fl_X0_7 dX0_isOpen_33 (sh_81 hN) rfl ?_
      refine zs_iload_n dX0_isOpen_36 rfl 2 rfl ?_
      refine zs_baldG dX0_isOpen_37 (sh_82 hN) ?_
      refine zs_iconst (v := (2 : Int32)) dX0_isOpen_38 ci_2 ?_
      refine zs_icmp_ne (tgt := 46) dX0_isOpen_39 (by decide) ?_ ?_
      · refine zs_iconst (v := (0 : Int32)) dX0_isOpen_46 ci_0 ?_
        exact zs_zret dX0_isOpen_47 rfl rfl rfl rfl
      · refine zs_iconst (v := (1 : Int32)) dX0_isOpen_42 ci_1 ?_
        refine zs_goto (tgt := 47) dX0_isOpen_43 (by decide) ?_
        exact zs_zret dX0_isOpen_47 rfl rfl rfl rfl
def f_X0_isOpen  (p1 : Int32) (m : zz_Mem) : Option (Int32 × zz_Mem) :=
  if p1 < 0 then (
  f_X0_isOpen_18 p1 (0 : Int32) m)
  else (
  if (2048 : Int32) ≤ p1 then (
  f_X0_isOpen_18 p1 (0 : Int32) m)
  else (
  f_X0_isOpen_18 p1 (1 : Int32) m))
theorem k_X0_isOpen {l : Launch} {G : zz_G} (hN : 107 ≤ zz_N G) : ∀ (p1 : Int32) (m : zz_Mem), zz_Con zz_sh l G mX0_isOpen 3 [.ref (zz_a G 81), .int p1] zz_vI zz_m2 (f_X0_isOpen p1 m) m := by
  intro p1 m
  refine zz_con (lv := [(0, .ref (zz_a G 81)), (1, .int p1)]) (by decide +kernel) (Nat.le_of_ble_eq_true rfl) rfl ?_
  unfold f_X0_isOpen
  refine zs_iload_n dX0_isOpen_0 rfl 1 rfl ?_
  refine zs_if_lt (tgt := 17) dX0_isOpen_1 (by decide) ?_ ?_
  · refine zs_iconst (v := (0 : Int32)) dX0_isOpen_17 ci_0 ?_
    exact t_X0_isOpen_18 hN _ _ _
  · refine zs_iload_n dX0_isOpen_4 rfl 1 rfl ?_
    refine zs_aload_n dX0_isOpen_5 rfl 0 rfl ?_
    refine zs_getR fl_X0_7 dX0_isOpen_6 (sh_81 hN) rfl ?_
    refine zs_alen2 (v := (2048 : Int32)) dX0_isOpen_9 (sh_82 hN) al_2048 ?_
    refine zs_icmp_ge (tgt := 17) dX0_isOpen_10 (by decide) ?_ ?_
    · refine zs_iconst (v := (0 : Int32)) dX0_isOpen_17 ci_0 ?_
      exact t_X0_isOpen_18 hN _ _ _
    · refine zs_iconst (v := (1 : Int32)) dX0_isOpen_13 ci_1 ?_
      refine zs_goto (tgt := 18) dX0_isOpen_14 (by decide) ?_
      exact t_X0_isOpen_18 hN _ _ _
/-! X0_putOff: PillarDesk$Calendar.putOff(I)I -/
theorem dX0_putOff_0 : decode cX0_putOff 0 = .ok (.iconst 0, 1) := by decide +kernel
theorem dX0_putOff_1 : decode cX0_putOff 1 = .ok (.istore_n 2, 1) := by decide +kernel
theorem dX0_putOff_2 : decode cX0_putOff 2 = .ok (.iload_n 2, 1) := by decide +kernel
theorem dX0_putOff_3 : decode cX0_putOff 3 = .ok (.bipush 30, 2) := by decide +kernel
theorem dX0_putOff_5 : decode cX0_putOff 5 = .ok (.if_icmp .gt 23, 3) := by decide +kernel
theorem dX0_putOff_8 : decode cX0_putOff 8 = .ok (.aload_n 0, 1) := by decide +kernel
theorem dX0_putOff_9 : decode cX0_putOff 9 = .ok (.iload_n 1, 1) := by decide +kernel
theorem dX0_putOff_10 : decode cX0_putOff 10 = .ok (.iload_n 2, 1) := by decide +kernel
theorem dX0_putOff_11 : decode cX0_putOff 11 = .ok (.iadd, 1) := by decide +kernel
theorem dX0_putOff_12 : decode cX0_putOff 12 = .ok (.invokevirtual 65, 3) := by decide +kernel
theorem dX0_putOff_15 : decode cX0_putOff 15 = .ok (.ifCond .eq 7, 3) := by decide +kernel
theorem dX0_putOff_18 : decode cX0_putOff 18 = .ok (.iload_n 1, 1) := by decide +kernel
theorem dX0_putOff_19 : decode cX0_putOff 19 = .ok (.iload_n 2, 1) := by decide +kernel
theorem dX0_putOff_20 : decode cX0_putOff 20 = .ok (.iadd, 1) := by decide +kernel
theorem dX0_putOff_21 : decode cX0_putOff 21 = .ok (.ireturn, 1) := by decide +kernel
theorem dX0_putOff_22 : decode cX0_putOff 22 = .ok (.iinc 2 1, 3) := by decide +kernel
theorem dX0_putOff_25 : decode cX0_putOff 25 = .ok (.goto (-23), 3) := by decide +kernel
theorem dX0_putOff_28 : decode cX0_putOff 28 = .ok (.iload_n 1, 1) := by decide +kernel
theorem dX0_putOff_29 : decode cX0_putOff 29 = .ok (.ireturn, 1) := by decide +kernel
def f_X0_putOff_2   : Nat → Int32 → Int32 → zz_Mem → Option (Int32 × zz_Mem)
  | 0, _, _, _ => none
  | n + 1, v1, v2, m =>
  if (30 : Int32) < v2 then (
  some (v1, m))
  else (
  zz_bnd (f_X0_isOpen (v1 + v2) m) fun r1 m2 =>
  if r1 = 0 then (
  zz_letI (v2 + (1 : Int32)) fun x3 =>
  f_X0_putOff_2 n v1 x3 m2)
  else (
  some (v1 + v2, m2)))
theorem t_X0_putOff_2 {l : Launch} {G : zz_G} (hN : 107 ≤ zz_N G)  : ∀ (n : Nat) (v1 : Int32) (v2 : Int32) (m : zz_Mem), zz_Sim zz_sh l G mX0_putOff 4 zz_vI zz_m2 (f_X0_putOff_2 n v1 v2 m) 2 [(0, .ref (zz_a G 81)), (1, .int v1), (2, .int v2)] [] m := by
  intro n
  induction n with
  | zero => intro _ _ _; exact zs_none
  | succ n ih =>
    intro v1 v2 m
    rw [f_X0_putOff_2]
    refine zs_iload_n dX0_putOff_2 rfl 2 rfl ?_
    refine zs_bipush (v := (30 : Int32)) dX0_putOff_3 cb_30 ?_
    refine zs_icmp_gt (tgt := 28) dX0_putOff_5 (by decide) ?_ ?_
    · refine zs_iload_n dX0_putOff_28 rfl 1 rfl ?_
      exact zs_iret dX0_putOff_29 rfl rfl rfl
    · refine zs_aload_n dX0_putOff_8 rfl 0 rfl ?_
      refine zs_iload_n dX0_putOff_9 rfl 1 rfl ?_
      refine zs_iload_n dX0_putOff_10 rfl 2 rfl ?_
      refine zs_iadd dX0_putOff_11 ?_
      refine zs_cV_iW (rest := []) (k_X0_isOpen hN _ _) dX0_putOff_12 lv_X0_65 ok_X0_isOpen (zz_rcv_o (sh_81 hN) rfl) (Nat.le_of_ble_eq_true rfl) rfl rfl (Nat.le_of_ble_eq_true rfl) (fun r1 m2 => ?_)
      refine zs_if_eq (tgt := 22) dX0_putOff_15 (by decide) ?_ ?_
      · refine zs_iinc (fun y => [(2, .int y), (0, .ref (zz_a G 81)), (1, .int v1)]) dX0_putOff_22 2 rfl ci_1 (Nat.le_of_ble_eq_true rfl) (fun _ => rfl) (fun x3 => ?_)
        refine zs_goto (tgt := 2) dX0_putOff_25 (by decide) ?_
        refine zs_sub [1, 2, 0] rfl ?_
        exact ih _ _ _
      · refine zs_iload_n dX0_putOff_18 rfl 1 rfl ?_
        refine zs_iload_n dX0_putOff_19 rfl 2 rfl ?_
        refine zs_iadd dX0_putOff_20 ?_
        exact zs_iret dX0_putOff_21 rfl rfl rfl
def f_X0_putOff  (p1 : Int32) (m : zz_Mem) : Option (Int32 × zz_Mem) :=
  f_X0_putOff_2 zz_fuel p1 (0 : Int32) m
theorem k_X0_putOff {l : Launch} {G : zz_G} (hN : 107 ≤ zz_N G) : ∀ (p1 : Int32) (m : zz_Mem), zz_Con zz_sh l G mX0_putOff 4 [.ref (zz_a G 81), .int p1] zz_vI zz_m2 (f_X0_putOff p1 m) m := by
  intro p1 m
  refine zz_con (lv := [(0, .ref (zz_a G 81)), (1, .int p1)]) (by decide +kernel) (Nat.le_of_ble_eq_true rfl) rfl ?_
  unfold f_X0_putOff
  refine zs_iconst (v := (0 : Int32)) dX0_putOff_0 ci_0 ?_
  refine zs_istore_n [(2, .int (0 : Int32)), (0, .ref (zz_a G 81)), (1, .int p1)] dX0_putOff_1 rfl (Nat.le_of_ble_eq_true rfl) rfl ?_
  refine zs_sub [1, 2, 0] rfl ?_
  exact t_X0_putOff_2 hN zz_fuel _ _ _
/-! X8_layPeriods: PillarDesk$Schedule.layPeriods(I)V -/
theorem dX8_layPeriods_0 : decode cX8_layPeriods 0 = .ok (.aload_n 0, 1) := by decide +kernel
theorem dX8_layPeriods_1 : decode cX8_layPeriods 1 = .ok (.getfield 36, 3) := by decide +kernel
theorem dX8_layPeriods_4 : decode cX8_layPeriods 4 = .ok (.getfield 81, 3) := by decide +kernel
theorem dX8_layPeriods_7 : decode cX8_layPeriods 7 = .ok (.iload_n 1, 1) := by decide +kernel
theorem dX8_layPeriods_8 : decode cX8_layPeriods 8 = .ok (.iaload, 1) := by decide +kernel
theorem dX8_layPeriods_9 : decode cX8_layPeriods 9 = .ok (.istore_n 2, 1) := by decide +kernel
theorem dX8_layPeriods_10 : decode cX8_layPeriods 10 = .ok (.iload_n 2, 1) := by decide +kernel
theorem dX8_layPeriods_11 : decode cX8_layPeriods 11 = .ok (.ifCond .le 26, 3) := by decide +kernel
theorem dX8_layPeriods_14 : decode cX8_layPeriods 14 = .ok (.bipush 34, 2) := by decide +kernel
theorem dX8_layPeriods_16 : decode cX8_layPeriods 16 = .ok (.aload_n 0, 1) := by decide +kernel
theorem dX8_layPeriods_17 : decode cX8_layPeriods 17 = .ok (.getfield 36, 3) := by decide +kernel
theorem dX8_layPeriods_20 : decode cX8_layPeriods 20 = .ok (.getfield 68, 3) := by decide +kernel
theorem dX8_layPeriods_23 : decode cX8_layPeriods 23 = .ok (.iload_n 1, 1) := by decide +kernel
theorem dX8_layPeriods_24 : decode cX8_layPeriods 24 = .ok (.iaload, 1) := by decide +kernel
theorem dX8_layPeriods_25 : decode cX8_layPeriods 25 = .ok (.iconst 1, 1) := by decide +kernel
theorem dX8_layPeriods_26 : decode cX8_layPeriods 26 = .ok (.isub, 1) := by decide +kernel
theorem dX8_layPeriods_27 : decode cX8_layPeriods 27 = .ok (.iload_n 2, 1) := by decide +kernel
theorem dX8_layPeriods_28 : decode cX8_layPeriods 28 = .ok (.idiv, 1) := by decide +kernel
theorem dX8_layPeriods_29 : decode cX8_layPeriods 29 = .ok (.iconst 1, 1) := by decide +kernel
theorem dX8_layPeriods_30 : decode cX8_layPeriods 30 = .ok (.iadd, 1) := by decide +kernel
theorem dX8_layPeriods_31 : decode cX8_layPeriods 31 = .ok (.invokestatic 84, 3) := by decide +kernel
theorem dX8_layPeriods_34 : decode cX8_layPeriods 34 = .ok (.goto 4, 3) := by decide +kernel
theorem dX8_layPeriods_37 : decode cX8_layPeriods 37 = .ok (.iconst 0, 1) := by decide +kernel
theorem dX8_layPeriods_38 : decode cX8_layPeriods 38 = .ok (.istore_n 3, 1) := by decide +kernel
theorem dX8_layPeriods_39 : decode cX8_layPeriods 39 = .ok (.aload_n 0, 1) := by decide +kernel
theorem dX8_layPeriods_40 : decode cX8_layPeriods 40 = .ok (.getfield 18, 3) := by decide +kernel
theorem dX8_layPeriods_43 : decode cX8_layPeriods 43 = .ok (.iload_n 1, 1) := by decide +kernel
theorem dX8_layPeriods_44 : decode cX8_layPeriods 44 = .ok (.iload_n 3, 1) := by decide +kernel
theorem dX8_layPeriods_45 : decode cX8_layPeriods 45 = .ok (.iastore, 1) := by decide +kernel
theorem dX8_layPeriods_46 : decode cX8_layPeriods 46 = .ok (.iconst 0, 1) := by decide +kernel
theorem dX8_layPeriods_47 : decode cX8_layPeriods 47 = .ok (.istore 4, 2) := by decide +kernel
theorem dX8_layPeriods_49 : decode cX8_layPeriods 49 = .ok (.iload 4, 2) := by decide +kernel
theorem dX8_layPeriods_51 : decode cX8_layPeriods 51 = .ok (.iload_n 3, 1) := by decide +kernel
theorem dX8_layPeriods_52 : decode cX8_layPeriods 52 = .ok (.if_icmp .ge 46, 3) := by decide +kernel
theorem dX8_layPeriods_55 : decode cX8_layPeriods 55 = .ok (.aload_n 0, 1) := by decide +kernel
theorem dX8_layPeriods_56 : decode cX8_layPeriods 56 = .ok (.getfield 21, 3) := by decide +kernel
theorem dX8_layPeriods_59 : decode cX8_layPeriods 59 = .ok (.iload_n 1, 1) := by decide +kernel
theorem dX8_layPeriods_60 : decode cX8_layPeriods 60 = .ok (.bipush 34, 2) := by decide +kernel
theorem dX8_layPeriods_62 : decode cX8_layPeriods 62 = .ok (.imul, 1) := by decide +kernel
theorem dX8_layPeriods_63 : decode cX8_layPeriods 63 = .ok (.iload 4, 2) := by decide +kernel
theorem dX8_layPeriods_65 : decode cX8_layPeriods 65 = .ok (.iadd, 1) := by decide +kernel
theorem dX8_layPeriods_66 : decode cX8_layPeriods 66 = .ok (.aload_n 0, 1) := by decide +kernel
theorem dX8_layPeriods_67 : decode cX8_layPeriods 67 = .ok (.getfield 45, 3) := by decide +kernel
theorem dX8_layPeriods_70 : decode cX8_layPeriods 70 = .ok (.aload_n 0, 1) := by decide +kernel
theorem dX8_layPeriods_71 : decode cX8_layPeriods 71 = .ok (.getfield 36, 3) := by decide +kernel
theorem dX8_layPeriods_74 : decode cX8_layPeriods 74 = .ok (.getfield 68, 3) := by decide +kernel
theorem dX8_layPeriods_77 : decode cX8_layPeriods 77 = .ok (.iload_n 1, 1) := by decide +kernel
theorem dX8_layPeriods_78 : decode cX8_layPeriods 78 = .ok (.iaload, 1) := by decide +kernel
theorem dX8_layPeriods_79 : decode cX8_layPeriods 79 = .ok (.iload_n 3, 1) := by decide +kernel
theorem dX8_layPeriods_80 : decode cX8_layPeriods 80 = .ok (.iconst 1, 1) := by decide +kernel
theorem dX8_layPeriods_81 : decode cX8_layPeriods 81 = .ok (.isub, 1) := by decide +kernel
theorem dX8_layPeriods_82 : decode cX8_layPeriods 82 = .ok (.iload 4, 2) := by decide +kernel
theorem dX8_layPeriods_84 : decode cX8_layPeriods 84 = .ok (.isub, 1) := by decide +kernel
theorem dX8_layPeriods_85 : decode cX8_layPeriods 85 = .ok (.iload_n 2, 1) := by decide +kernel
theorem dX8_layPeriods_86 : decode cX8_layPeriods 86 = .ok (.imul, 1) := by decide +kernel
theorem dX8_layPeriods_87 : decode cX8_layPeriods 87 = .ok (.isub, 1) := by decide +kernel
theorem dX8_layPeriods_88 : decode cX8_layPeriods 88 = .ok (.invokevirtual 64, 3) := by decide +kernel
theorem dX8_layPeriods_91 : decode cX8_layPeriods 91 = .ok (.iastore, 1) := by decide +kernel
theorem dX8_layPeriods_92 : decode cX8_layPeriods 92 = .ok (.iinc 4 1, 3) := by decide +kernel
theorem dX8_layPeriods_95 : decode cX8_layPeriods 95 = .ok (.goto (-46), 3) := by decide +kernel
theorem dX8_layPeriods_98 : decode cX8_layPeriods 98 = .ok (.return_, 1) := by decide +kernel
def f_X8_layPeriods_49   : Nat → Int32 → Int32 → Int32 → Int32 → zz_Mem → Option zz_Mem
  | 0, _, _, _, _, _ => none
  | n + 1, v1, v2, v3, v4, m =>
  if v3 ≤ v4 then (
  some m)
  else (
  zz_ix v1 8 <|
  zz_bnd (f_X0_putOff ((m.1 6 v1.toNatClampNeg) - (((v3 - (1 : Int32)) - v4) * v2)) m) fun r1 m2 =>
  zz_ix ((v1 * (34 : Int32)) + v4) 272 <| zz_letM (zz_setI m2 76 ((v1 * (34 : Int32)) + v4).toNatClampNeg r1) fun m3 =>
  zz_letI (v4 + (1 : Int32)) fun x4 =>
  f_X8_layPeriods_49 n v1 v2 v3 x4 m3)
theorem t_X8_layPeriods_49 {l : Launch} {G : zz_G} (hN : 107 ≤ zz_N G)  : ∀ (n : Nat) (v1 : Int32) (v2 : Int32) (v3 : Int32) (v4 : Int32) (m : zz_Mem), zz_Sim zz_sh l G mX8_layPeriods 5 zz_vV zz_mV (f_X8_layPeriods_49 n v1 v2 v3 v4 m) 49 [(0, .ref (zz_a G 72)), (1, .int v1), (2, .int v2), (3, .int v3), (4, .int v4)] [] m := by
  intro n
  induction n with
  | zero => intro _ _ _ _ _; exact zs_none
  | succ n ih =>
    intro v1 v2 v3 v4 m
    rw [f_X8_layPeriods_49]
    refine zs_iload dX8_layPeriods_49 4 rfl ?_
    refine zs_iload_n dX8_layPeriods_51 rfl 3 rfl ?_
    refine zs_icmp_ge (tgt := 98) dX8_layPeriods_52 (by decide) ?_ ?_
    · exact zs_vret dX8_layPeriods_98 rfl rfl rfl
    · refine zs_aload_n dX8_layPeriods_55 rfl 0 rfl ?_
      refine zs_getR fl_X8_21 dX8_layPeriods_56 (sh_72 hN) rfl ?_
      refine zs_iload_n dX8_layPeriods_59 rfl 1 rfl ?_
      refine zs_bipush (v := (34 : Int32)) dX8_layPeriods_60 cb_34 ?_
      refine zs_imul dX8_layPeriods_62 ?_
      refine zs_iload dX8_layPeriods_63 4 rfl ?_
      refine zs_iadd dX8_layPeriods_65 ?_
      refine zs_aload_n dX8_layPeriods_66 rfl 0 rfl ?_
      refine zs_getR fl_X8_45 dX8_layPeriods_67 (sh_72 hN) rfl ?_
      refine zs_aload_n dX8_layPeriods_70 rfl 0 rfl ?_
      refine zs_getR fl_X8_36 dX8_layPeriods_71 (sh_72 hN) rfl ?_
      refine zs_getR fl_X8_68 dX8_layPeriods_74 (sh_2 hN) rfl ?_
      refine zs_iload_n dX8_layPeriods_77 rfl 1 rfl ?_
      refine zs_ialdG dX8_layPeriods_78 (sh_6 hN) ?_
      refine zs_iload_n dX8_layPeriods_79 rfl 3 rfl ?_
      refine zs_iconst (v := (1 : Int32)) dX8_layPeriods_80 ci_1 ?_
      refine zs_isub dX8_layPeriods_81 ?_
      refine zs_iload dX8_layPeriods_82 4 rfl ?_
      refine zs_isub dX8_layPeriods_84 ?_
      refine zs_iload_n dX8_layPeriods_85 rfl 2 rfl ?_
      refine zs_imul dX8_layPeriods_86 ?_
      refine zs_isub dX8_layPeriods_87 ?_
      refine zs_cV_iW (rest := [.int ((v1 * (34 : Int32)) + v4), .ref (zz_a G 76)]) (k_X0_putOff hN _ _) dX8_layPeriods_88 lv_X8_64 ok_X0_putOff (zz_rcv_o (sh_81 hN) rfl) (Nat.le_of_ble_eq_true rfl) rfl rfl (Nat.le_of_ble_eq_true rfl) (fun r1 m2 => ?_)
      refine zs_iastG dX8_layPeriods_91 (sh_76 hN) (fun m3 => ?_)
      refine zs_iinc (fun y => [(4, .int y), (0, .ref (zz_a G 72)), (1, .int v1), (2, .int v2), (3, .int v3)]) dX8_layPeriods_92 4 rfl ci_1 (Nat.le_of_ble_eq_true rfl) (fun _ => rfl) (fun x4 => ?_)
      refine zs_goto (tgt := 49) dX8_layPeriods_95 (by decide) ?_
      refine zs_sub [1, 2, 3, 4, 0] rfl ?_
      exact ih _ _ _ _ _
def f_X8_layPeriods_38   (v1 : Int32) (v2 : Int32) (s0 : Int32) (m : zz_Mem) : Option zz_Mem :=
  zz_ix v1 8 <| zz_letM (zz_setI m 75 v1.toNatClampNeg s0) fun m1 =>
  f_X8_layPeriods_49 zz_fuel v1 v2 s0 (0 : Int32) m1
theorem t_X8_layPeriods_38 {l : Launch} {G : zz_G} (hN : 107 ≤ zz_N G)  : ∀ (v1 : Int32) (v2 : Int32) (s0 : Int32) (m : zz_Mem), zz_Sim zz_sh l G mX8_layPeriods 5 zz_vV zz_mV (f_X8_layPeriods_38 v1 v2 s0 m) 38 [(0, .ref (zz_a G 72)), (1, .int v1), (2, .int v2)] [.int s0] m := by
  intro v1 v2 s0 m
  unfold f_X8_layPeriods_38
  refine zs_istore_n [(3, .int s0), (0, .ref (zz_a G 72)), (1, .int v1), (2, .int v2)] dX8_layPeriods_38 rfl (Nat.le_of_ble_eq_true rfl) rfl ?_
  refine zs_aload_n dX8_layPeriods_39 rfl 1 rfl ?_
  refine zs_getR fl_X8_18 dX8_layPeriods_40 (sh_72 hN) rfl ?_
  refine zs_iload_n dX8_layPeriods_43 rfl 2 rfl ?_
  refine zs_iload_n dX8_layPeriods_44 rfl 0 rfl ?_
  refine zs_iastG dX8_layPeriods_45 (sh_75 hN) (fun m1 => ?_)
  refine zs_iconst (v := (0 : Int32)) dX8_layPeriods_46 ci_0 ?_
  refine zs_istore [(4, .int (0 : Int32)), (3, .int s0), (0, .ref (zz_a G 72)), (1, .int v1), (2, .int v2)] dX8_layPeriods_47 (Nat.le_of_ble_eq_true rfl) rfl ?_
  refine zs_sub [2, 3, 4, 1, 0] rfl ?_
  exact t_X8_layPeriods_49 hN zz_fuel _ _ _ _ _
def f_X8_layPeriods  (p1 : Int32) (m : zz_Mem) : Option zz_Mem :=
  zz_ix p1 8 <|
  zz_letI (m.1 7 p1.toNatClampNeg) fun x1 =>
  if x1 ≤ 0 then (
  f_X8_layPeriods_38 p1 x1 (0 : Int32) m)
  else (
  zz_ix p1 8 <|
  zz_nz x1 <|
  zz_bndR (f_J9_min_7cf53 (34 : Int32) ((((m.1 6 p1.toNatClampNeg) - (1 : Int32)) / x1) + (1 : Int32))) fun r2 =>
  f_X8_layPeriods_38 p1 x1 r2 m)
theorem k_X8_layPeriods {l : Launch} {G : zz_G} (hN : 107 ≤ zz_N G) : ∀ (p1 : Int32) (m : zz_Mem), zz_Con zz_sh l G mX8_layPeriods 5 [.ref (zz_a G 72), .int p1] zz_vV zz_mV (f_X8_layPeriods p1 m) m := by
  intro p1 m
  refine zz_con (lv := [(0, .ref (zz_a G 72)), (1, .int p1)]) (by decide +kernel) (Nat.le_of_ble_eq_true rfl) rfl ?_
  unfold f_X8_layPeriods
  refine zs_aload_n dX8_layPeriods_0 rfl 0 rfl ?_
  refine zs_getR fl_X8_36 dX8_layPeriods_1 (sh_72 hN) rfl ?_
  refine zs_getR fl_X8_81 dX8_layPeriods_4 (sh_2 hN) rfl ?_
  refine zs_iload_n dX8_layPeriods_7 rfl 1 rfl ?_
  refine zs_ialdG dX8_layPeriods_8 (sh_7 hN) ?_
  refine zs_letI (fun x1 => ?_)
  refine zs_istore_n [(2, .int x1), (0, .ref (zz_a G 72)), (1, .int p1)] dX8_layPeriods_9 rfl (Nat.le_of_ble_eq_true rfl) rfl ?_
  refine zs_iload_n dX8_layPeriods_10 rfl 0 rfl ?_
  refine zs_if_le (tgt := 37) dX8_layPeriods_11 (by decide) ?_ ?_
  · refine zs_iconst (v := (0 : Int32)) dX8_layPeriods_37 ci_0 ?_
    refine zs_sub [1, 2, 0] rfl ?_
    exact t_X8_layPeriods_38 hN _ _ _ _
  · refine zs_bipush (v := (34 : Int32)) dX8_layPeriods_14 cb_34 ?_
    refine zs_aload_n dX8_layPeriods_16 rfl 1 rfl ?_
    refine zs_getR fl_X8_36 dX8_layPeriods_17 (sh_72 hN) rfl ?_
    refine zs_getR fl_X8_68 dX8_layPeriods_20 (sh_2 hN) rfl ?_
    refine zs_iload_n dX8_layPeriods_23 rfl 2 rfl ?_
    refine zs_ialdG dX8_layPeriods_24 (sh_6 hN) ?_
    refine zs_iconst (v := (1 : Int32)) dX8_layPeriods_25 ci_1 ?_
    refine zs_isub dX8_layPeriods_26 ?_
    refine zs_iload_n dX8_layPeriods_27 rfl 0 rfl ?_
    refine zs_idivG dX8_layPeriods_28 ?_
    refine zs_iconst (v := (1 : Int32)) dX8_layPeriods_29 ci_1 ?_
    refine zs_iadd dX8_layPeriods_30 ?_
    refine zs_cS_iR (rest := []) (k_J9_min_7cf53 hN _ _ _) dX8_layPeriods_31 ls_X8_84 ok_J9_min_7cf53 (Nat.le_of_ble_eq_true rfl) rfl rfl (Nat.le_of_ble_eq_true rfl) (fun r2 => ?_)
    refine zs_goto (tgt := 38) dX8_layPeriods_34 (by decide) ?_
    refine zs_sub [1, 2, 0] rfl ?_
    exact t_X8_layPeriods_38 hN _ _ _ _
/-! X8_sortByEnds: PillarDesk$Schedule.sortByEnds()V -/
theorem dX8_sortByEnds_0 : decode cX8_sortByEnds 0 = .ok (.iconst 0, 1) := by decide +kernel
theorem dX8_sortByEnds_1 : decode cX8_sortByEnds 1 = .ok (.istore_n 1, 1) := by decide +kernel
theorem dX8_sortByEnds_2 : decode cX8_sortByEnds 2 = .ok (.iload_n 1, 1) := by decide +kernel
theorem dX8_sortByEnds_3 : decode cX8_sortByEnds 3 = .ok (.aload_n 0, 1) := by decide +kernel
theorem dX8_sortByEnds_4 : decode cX8_sortByEnds 4 = .ok (.getfield 36, 3) := by decide +kernel
theorem dX8_sortByEnds_7 : decode cX8_sortByEnds 7 = .ok (.getfield 52, 3) := by decide +kernel
theorem dX8_sortByEnds_10 : decode cX8_sortByEnds 10 = .ok (.if_icmp .ge 64, 3) := by decide +kernel
theorem dX8_sortByEnds_13 : decode cX8_sortByEnds 13 = .ok (.iload_n 1, 1) := by decide +kernel
theorem dX8_sortByEnds_14 : decode cX8_sortByEnds 14 = .ok (.istore_n 2, 1) := by decide +kernel
theorem dX8_sortByEnds_15 : decode cX8_sortByEnds 15 = .ok (.iload_n 2, 1) := by decide +kernel
theorem dX8_sortByEnds_16 : decode cX8_sortByEnds 16 = .ok (.ifCond .le 45, 3) := by decide +kernel
theorem dX8_sortByEnds_19 : decode cX8_sortByEnds 19 = .ok (.aload_n 0, 1) := by decide +kernel
theorem dX8_sortByEnds_20 : decode cX8_sortByEnds 20 = .ok (.getfield 15, 3) := by decide +kernel
theorem dX8_sortByEnds_23 : decode cX8_sortByEnds 23 = .ok (.aload_n 0, 1) := by decide +kernel
theorem dX8_sortByEnds_24 : decode cX8_sortByEnds 24 = .ok (.getfield 27, 3) := by decide +kernel
theorem dX8_sortByEnds_27 : decode cX8_sortByEnds 27 = .ok (.iload_n 2, 1) := by decide +kernel
theorem dX8_sortByEnds_28 : decode cX8_sortByEnds 28 = .ok (.iconst 1, 1) := by decide +kernel
theorem dX8_sortByEnds_29 : decode cX8_sortByEnds 29 = .ok (.isub, 1) := by decide +kernel
theorem dX8_sortByEnds_30 : decode cX8_sortByEnds 30 = .ok (.iaload, 1) := by decide +kernel
theorem dX8_sortByEnds_31 : decode cX8_sortByEnds 31 = .ok (.iaload, 1) := by decide +kernel
theorem dX8_sortByEnds_32 : decode cX8_sortByEnds 32 = .ok (.aload_n 0, 1) := by decide +kernel
theorem dX8_sortByEnds_33 : decode cX8_sortByEnds 33 = .ok (.getfield 15, 3) := by decide +kernel
theorem dX8_sortByEnds_36 : decode cX8_sortByEnds 36 = .ok (.iload_n 1, 1) := by decide +kernel
theorem dX8_sortByEnds_37 : decode cX8_sortByEnds 37 = .ok (.iaload, 1) := by decide +kernel
theorem dX8_sortByEnds_38 : decode cX8_sortByEnds 38 = .ok (.if_icmp .le 23, 3) := by decide +kernel
theorem dX8_sortByEnds_41 : decode cX8_sortByEnds 41 = .ok (.aload_n 0, 1) := by decide +kernel
theorem dX8_sortByEnds_42 : decode cX8_sortByEnds 42 = .ok (.getfield 27, 3) := by decide +kernel
theorem dX8_sortByEnds_45 : decode cX8_sortByEnds 45 = .ok (.iload_n 2, 1) := by decide +kernel
theorem dX8_sortByEnds_46 : decode cX8_sortByEnds 46 = .ok (.aload_n 0, 1) := by decide +kernel
theorem dX8_sortByEnds_47 : decode cX8_sortByEnds 47 = .ok (.getfield 27, 3) := by decide +kernel
theorem dX8_sortByEnds_50 : decode cX8_sortByEnds 50 = .ok (.iload_n 2, 1) := by decide +kernel
theorem dX8_sortByEnds_51 : decode cX8_sortByEnds 51 = .ok (.iconst 1, 1) := by decide +kernel
theorem dX8_sortByEnds_52 : decode cX8_sortByEnds 52 = .ok (.isub, 1) := by decide +kernel
theorem dX8_sortByEnds_53 : decode cX8_sortByEnds 53 = .ok (.iaload, 1) := by decide +kernel
theorem dX8_sortByEnds_54 : decode cX8_sortByEnds 54 = .ok (.iastore, 1) := by decide +kernel
theorem dX8_sortByEnds_55 : decode cX8_sortByEnds 55 = .ok (.iinc 2 (-1), 3) := by decide +kernel
theorem dX8_sortByEnds_58 : decode cX8_sortByEnds 58 = .ok (.goto (-43), 3) := by decide +kernel
theorem dX8_sortByEnds_61 : decode cX8_sortByEnds 61 = .ok (.aload_n 0, 1) := by decide +kernel
theorem dX8_sortByEnds_62 : decode cX8_sortByEnds 62 = .ok (.getfield 27, 3) := by decide +kernel
theorem dX8_sortByEnds_65 : decode cX8_sortByEnds 65 = .ok (.iload_n 2, 1) := by decide +kernel
theorem dX8_sortByEnds_66 : decode cX8_sortByEnds 66 = .ok (.iload_n 1, 1) := by decide +kernel
theorem dX8_sortByEnds_67 : decode cX8_sortByEnds 67 = .ok (.iastore, 1) := by decide +kernel
theorem dX8_sortByEnds_68 : decode cX8_sortByEnds 68 = .ok (.iinc 1 1, 3) := by decide +kernel
theorem dX8_sortByEnds_71 : decode cX8_sortByEnds 71 = .ok (.goto (-69), 3) := by decide +kernel
theorem dX8_sortByEnds_74 : decode cX8_sortByEnds 74 = .ok (.return_, 1) := by decide +kernel
def f_X8_sortByEnds_61  (k2 : Int32 → zz_Mem → Option zz_Mem) (v1 : Int32) (v2 : Int32) (m : zz_Mem) : Option zz_Mem :=
  zz_ix v2 8 <| zz_letM (zz_setI m 78 v2.toNatClampNeg v1) fun m1 =>
  zz_letI (v1 + (1 : Int32)) fun x2 =>
  k2 x2 m1
theorem t_X8_sortByEnds_61 {l : Launch} {G : zz_G} (hN : 107 ≤ zz_N G) {k2 : Int32 → zz_Mem → Option zz_Mem} (hk2 : ∀ (v1 : Int32) (m : zz_Mem), zz_Sim zz_sh l G mX8_sortByEnds 0 zz_vV zz_mV (k2 v1 m) 2 [(0, .ref (zz_a G 72)), (1, .int v1)] [] m) : ∀ (v1 : Int32) (v2 : Int32) (m : zz_Mem), zz_Sim zz_sh l G mX8_sortByEnds 0 zz_vV zz_mV (f_X8_sortByEnds_61 k2 v1 v2 m) 61 [(0, .ref (zz_a G 72)), (1, .int v1), (2, .int v2)] [] m := by
  intro v1 v2 m
  unfold f_X8_sortByEnds_61
  refine zs_aload_n dX8_sortByEnds_61 rfl 0 rfl ?_
  refine zs_getR fl_X8_27 dX8_sortByEnds_62 (sh_72 hN) rfl ?_
  refine zs_iload_n dX8_sortByEnds_65 rfl 2 rfl ?_
  refine zs_iload_n dX8_sortByEnds_66 rfl 1 rfl ?_
  refine zs_iastG dX8_sortByEnds_67 (sh_78 hN) (fun m1 => ?_)
  refine zs_iinc (fun y => [(1, .int y), (0, .ref (zz_a G 72)), (2, .int v2)]) dX8_sortByEnds_68 1 rfl ci_1 (Nat.le_of_ble_eq_true rfl) (fun _ => rfl) (fun x2 => ?_)
  refine zs_goto (tgt := 2) dX8_sortByEnds_71 (by decide) ?_
  refine zs_sub [1, 0] rfl ?_
  exact hk2 _ _
def f_X8_sortByEnds_15  (k2 : Int32 → zz_Mem → Option zz_Mem) : Nat → Int32 → Int32 → zz_Mem → Option zz_Mem
  | 0, _, _, _ => none
  | n + 1, v1, v2, m =>
  if v2 ≤ 0 then (
  f_X8_sortByEnds_61 k2 v1 v2 m)
  else (
  zz_ix (v2 - (1 : Int32)) 8 <|
  zz_ix (m.1 78 (v2 - (1 : Int32)).toNatClampNeg) 8 <|
  zz_ix v1 8 <|
  if (m.1 74 (m.1 78 (v2 - (1 : Int32)).toNatClampNeg).toNatClampNeg) ≤ (m.1 74 v1.toNatClampNeg) then (
  f_X8_sortByEnds_61 k2 v1 v2 m)
  else (
  zz_ix (v2 - (1 : Int32)) 8 <|
  zz_ix v2 8 <| zz_letM (zz_setI m 78 v2.toNatClampNeg (m.1 78 (v2 - (1 : Int32)).toNatClampNeg)) fun m1 =>
  zz_letI (v2 + (-1 : Int32)) fun x2 =>
  f_X8_sortByEnds_15 k2 n v1 x2 m1))
theorem t_X8_sortByEnds_15 {l : Launch} {G : zz_G} (hN : 107 ≤ zz_N G) {k2 : Int32 → zz_Mem → Option zz_Mem} (hk2 : ∀ (v1 : Int32) (m : zz_Mem), zz_Sim zz_sh l G mX8_sortByEnds 0 zz_vV zz_mV (k2 v1 m) 2 [(0, .ref (zz_a G 72)), (1, .int v1)] [] m) : ∀ (n : Nat) (v1 : Int32) (v2 : Int32) (m : zz_Mem), zz_Sim zz_sh l G mX8_sortByEnds 0 zz_vV zz_mV (f_X8_sortByEnds_15 k2 n v1 v2 m) 15 [(0, .ref (zz_a G 72)), (1, .int v1), (2, .int v2)] [] m := by
  intro n
  induction n with
  | zero => intro _ _ _; exact zs_none
  | succ n ih =>
    intro v1 v2 m
    rw [f_X8_sortByEnds_15]
    refine zs_iload_n dX8_sortByEnds_15 rfl 2 rfl ?_
    refine zs_if_le (tgt := 61) dX8_sortByEnds_16 (by decide) ?_ ?_
    · exact t_X8_sortByEnds_61 hN hk2 _ _ _
    · refine zs_aload_n dX8_sortByEnds_19 rfl 0 rfl ?_
      refine zs_getR fl_X8_15 dX8_sortByEnds_20 (sh_72 hN) rfl ?_
      refine zs_aload_n dX8_sortByEnds_23 rfl 0 rfl ?_
      refine zs_getR fl_X8_27 dX8_sortByEnds_24 (sh_72 hN) rfl ?_
      refine zs_iload_n dX8_sortByEnds_27 rfl 2 rfl ?_
      refine zs_iconst (v := (1 : Int32)) dX8_sortByEnds_28 ci_1 ?_
      refine zs_isub dX8_sortByEnds_29 ?_
      refine zs_ialdG dX8_sortByEnds_30 (sh_78 hN) ?_
      refine zs_ialdG dX8_sortByEnds_31 (sh_74 hN) ?_
      refine zs_aload_n dX8_sortByEnds_32 rfl 0 rfl ?_
      refine zs_getR fl_X8_15 dX8_sortByEnds_33 (sh_72 hN) rfl ?_
      refine zs_iload_n dX8_sortByEnds_36 rfl 1 rfl ?_
      refine zs_ialdG dX8_sortByEnds_37 (sh_74 hN) ?_
      refine zs_icmp_le (tgt := 61) dX8_sortByEnds_38 (by decide) ?_ ?_
      · exact t_X8_sortByEnds_61 hN hk2 _ _ _
      · refine zs_aload_n dX8_sortByEnds_41 rfl 0 rfl ?_
        refine zs_getR fl_X8_27 dX8_sortByEnds_42 (sh_72 hN) rfl ?_
        refine zs_iload_n dX8_sortByEnds_45 rfl 2 rfl ?_
        refine zs_aload_n dX8_sortByEnds_46 rfl 0 rfl ?_
        refine zs_getR fl_X8_27 dX8_sortByEnds_47 (sh_72 hN) rfl ?_
        refine zs_iload_n dX8_sortByEnds_50 rfl 2 rfl ?_
        refine zs_iconst (v := (1 : Int32)) dX8_sortByEnds_51 ci_1 ?_
        refine zs_isub dX8_sortByEnds_52 ?_
        refine zs_ialdG dX8_sortByEnds_53 (sh_78 hN) ?_
        refine zs_iastG dX8_sortByEnds_54 (sh_78 hN) (fun m1 => ?_)
        refine zs_iinc (fun y => [(2, .int y), (0, .ref (zz_a G 72)), (1, .int v1)]) dX8_sortByEnds_55 2 rfl ci_m1 (Nat.le_of_ble_eq_true rfl) (fun _ => rfl) (fun x2 => ?_)
        refine zs_goto (tgt := 15) dX8_sortByEnds_58 (by decide) ?_
        refine zs_sub [1, 2, 0] rfl ?_
        exact ih _ _ _
def f_X8_sortByEnds_2   : Nat → Int32 → zz_Mem → Option zz_Mem
  | 0, _, _ => none
  | n + 1, v1, m =>
  if (m.1 2 5) ≤ v1 then (
  some m)
  else (
  f_X8_sortByEnds_15 (f_X8_sortByEnds_2 n) zz_fuel v1 v1 m)
theorem t_X8_sortByEnds_2 {l : Launch} {G : zz_G} (hN : 107 ≤ zz_N G)  : ∀ (n : Nat) (v1 : Int32) (m : zz_Mem), zz_Sim zz_sh l G mX8_sortByEnds 0 zz_vV zz_mV (f_X8_sortByEnds_2 n v1 m) 2 [(0, .ref (zz_a G 72)), (1, .int v1)] [] m := by
  intro n
  induction n with
  | zero => intro _ _; exact zs_none
  | succ n ih =>
    intro v1 m
    rw [f_X8_sortByEnds_2]
    refine zs_iload_n dX8_sortByEnds_2 rfl 1 rfl ?_
    refine zs_aload_n dX8_sortByEnds_3 rfl 0 rfl ?_
    refine zs_getR fl_X8_36 dX8_sortByEnds_4 (sh_72 hN) rfl ?_
    refine zs_getI fl_X8_52 dX8_sortByEnds_7 (sh_2 hN) rfl ?_
    refine zs_icmp_ge (tgt := 74) dX8_sortByEnds_10 (by decide) ?_ ?_
    · exact zs_vret dX8_sortByEnds_74 rfl rfl rfl
    · refine zs_iload_n dX8_sortByEnds_13 rfl 1 rfl ?_
      refine zs_istore_n [(2, .int v1), (0, .ref (zz_a G 72)), (1, .int v1)] dX8_sortByEnds_14 rfl (Nat.le_of_ble_eq_true rfl) rfl ?_
      refine zs_sub [1, 2, 0] rfl ?_
      exact t_X8_sortByEnds_15 hN ih zz_fuel _ _ _
def f_X8_sortByEnds   (m : zz_Mem) : Option zz_Mem :=
  f_X8_sortByEnds_2 zz_fuel (0 : Int32) m
theorem k_X8_sortByEnds {l : Launch} {G : zz_G} (hN : 107 ≤ zz_N G) : ∀ (m : zz_Mem), zz_Con zz_sh l G mX8_sortByEnds 0 [.ref (zz_a G 72)] zz_vV zz_mV (f_X8_sortByEnds m) m := by
  intro m
  refine zz_con (lv := [(0, .ref (zz_a G 72))]) (by decide +kernel) (Nat.le_of_ble_eq_true rfl) rfl ?_
  unfold f_X8_sortByEnds
  refine zs_iconst (v := (0 : Int32)) dX8_sortByEnds_0 ci_0 ?_
  refine zs_istore_n [(1, .int (0 : Int32)), (0, .ref (zz_a G 72))] dX8_sortByEnds_1 rfl (Nat.le_of_ble_eq_true rfl) rfl ?_
  refine zs_sub [1, 0] rfl ?_
  exact t_X8_sortByEnds_2 hN zz_fuel _ _
/-! X8_layPillars: PillarDesk$Schedule.layPillars()V -/
theorem dX8_layPillars_0 : decode cX8_layPillars 0 = .ok (.aload_n 0, 1) := by decide +kernel
theorem dX8_layPillars_1 : decode cX8_layPillars 1 = .ok (.getfield 30, 3) := by decide +kernel
theorem dX8_layPillars_4 : decode cX8_layPillars 4 = .ok (.iconst 0, 1) := by decide +kernel
theorem dX8_layPillars_5 : decode cX8_layPillars 5 = .ok (.iconst 0, 1) := by decide +kernel
theorem dX8_layPillars_6 : decode cX8_layPillars 6 = .ok (.iastore, 1) := by decide +kernel
theorem dX8_layPillars_7 : decode cX8_layPillars 7 = .ok (.aload_n 0, 1) := by decide +kernel
theorem dX8_layPillars_8 : decode cX8_layPillars 8 = .ok (.getfield 33, 3) := by decide +kernel
theorem dX8_layPillars_11 : decode cX8_layPillars 11 = .ok (.iconst 0, 1) := by decide +kernel
theorem dX8_layPillars_12 : decode cX8_layPillars 12 = .ok (.iconst (-1), 1) := by decide +kernel
theorem dX8_layPillars_13 : decode cX8_layPillars 13 = .ok (.iastore, 1) := by decide +kernel
theorem dX8_layPillars_14 : decode cX8_layPillars 14 = .ok (.aload_n 0, 1) := by decide +kernel
theorem dX8_layPillars_15 : decode cX8_layPillars 15 = .ok (.iconst 1, 1) := by decide +kernel
theorem dX8_layPillars_16 : decode cX8_layPillars 16 = .ok (.putfield 90, 3) := by decide +kernel
theorem dX8_layPillars_19 : decode cX8_layPillars 19 = .ok (.iconst 0, 1) := by decide +kernel
theorem dX8_layPillars_20 : decode cX8_layPillars 20 = .ok (.istore_n 1, 1) := by decide +kernel
theorem dX8_layPillars_21 : decode cX8_layPillars 21 = .ok (.iload_n 1, 1) := by decide +kernel
theorem dX8_layPillars_22 : decode cX8_layPillars 22 = .ok (.aload_n 0, 1) := by decide +kernel
theorem dX8_layPillars_23 : decode cX8_layPillars 23 = .ok (.getfield 36, 3) := by decide +kernel
theorem dX8_layPillars_26 : decode cX8_layPillars 26 = .ok (.getfield 52, 3) := by decide +kernel
theorem dX8_layPillars_29 : decode cX8_layPillars 29 = .ok (.if_icmp .ge 114, 3) := by decide +kernel
theorem dX8_layPillars_32 : decode cX8_layPillars 32 = .ok (.aload_n 0, 1) := by decide +kernel
theorem dX8_layPillars_33 : decode cX8_layPillars 33 = .ok (.getfield 27, 3) := by decide +kernel
theorem dX8_layPillars_36 : decode cX8_layPillars 36 = .ok (.iload_n 1, 1) := by decide +kernel
theorem dX8_layPillars_37 : decode cX8_layPillars 37 = .ok (.iaload, 1) := by decide +kernel
theorem dX8_layPillars_38 : decode cX8_layPillars 38 = .ok (.istore_n 2, 1) := by decide +kernel
theorem dX8_layPillars_39 : decode cX8_layPillars 39 = .ok (.aload_n 0, 1) := by decide +kernel
theorem dX8_layPillars_40 : decode cX8_layPillars 40 = .ok (.getfield 15, 3) := by decide +kernel
theorem dX8_layPillars_43 : decode cX8_layPillars 43 = .ok (.iload_n 2, 1) := by decide +kernel
theorem dX8_layPillars_44 : decode cX8_layPillars 44 = .ok (.iaload, 1) := by decide +kernel
theorem dX8_layPillars_45 : decode cX8_layPillars 45 = .ok (.aload_n 0, 1) := by decide +kernel
theorem dX8_layPillars_46 : decode cX8_layPillars 46 = .ok (.getfield 30, 3) := by decide +kernel
theorem dX8_layPillars_49 : decode cX8_layPillars 49 = .ok (.aload_n 0, 1) := by decide +kernel
theorem dX8_layPillars_50 : decode cX8_layPillars 50 = .ok (.getfield 90, 3) := by decide +kernel
theorem dX8_layPillars_53 : decode cX8_layPillars 53 = .ok (.iconst 1, 1) := by decide +kernel
theorem dX8_layPillars_54 : decode cX8_layPillars 54 = .ok (.isub, 1) := by decide +kernel
theorem dX8_layPillars_55 : decode cX8_layPillars 55 = .ok (.iaload, 1) := by decide +kernel
theorem dX8_layPillars_56 : decode cX8_layPillars 56 = .ok (.if_icmp .le 18, 3) := by decide +kernel
theorem dX8_layPillars_59 : decode cX8_layPillars 59 = .ok (.aload_n 0, 1) := by decide +kernel
theorem dX8_layPillars_60 : decode cX8_layPillars 60 = .ok (.getfield 9, 3) := by decide +kernel
theorem dX8_layPillars_63 : decode cX8_layPillars 63 = .ok (.iload_n 2, 1) := by decide +kernel
theorem dX8_layPillars_64 : decode cX8_layPillars 64 = .ok (.iaload, 1) := by decide +kernel
theorem dX8_layPillars_65 : decode cX8_layPillars 65 = .ok (.aload_n 0, 1) := by decide +kernel
theorem dX8_layPillars_66 : decode cX8_layPillars 66 = .ok (.getfield 15, 3) := by decide +kernel
theorem dX8_layPillars_69 : decode cX8_layPillars 69 = .ok (.iload_n 2, 1) := by decide +kernel
theorem dX8_layPillars_70 : decode cX8_layPillars 70 = .ok (.iaload, 1) := by decide +kernel
theorem dX8_layPillars_71 : decode cX8_layPillars 71 = .ok (.if_icmp .lt 7, 3) := by decide +kernel
theorem dX8_layPillars_74 : decode cX8_layPillars 74 = .ok (.iconst 1, 1) := by decide +kernel
theorem dX8_layPillars_75 : decode cX8_layPillars 75 = .ok (.goto 4, 3) := by decide +kernel
theorem dX8_layPillars_78 : decode cX8_layPillars 78 = .ok (.iconst 0, 1) := by decide +kernel
theorem dX8_layPillars_79 : decode cX8_layPillars 79 = .ok (.istore_n 3, 1) := by decide +kernel
theorem dX8_layPillars_80 : decode cX8_layPillars 80 = .ok (.aload_n 0, 1) := by decide +kernel
theorem dX8_layPillars_81 : decode cX8_layPillars 81 = .ok (.getfield 24, 3) := by decide +kernel
theorem dX8_layPillars_84 : decode cX8_layPillars 84 = .ok (.iload_n 2, 1) := by decide +kernel
theorem dX8_layPillars_85 : decode cX8_layPillars 85 = .ok (.iload_n 3, 1) := by decide +kernel
theorem dX8_layPillars_86 : decode cX8_layPillars 86 = .ok (.ifCond .eq 7, 3) := by decide +kernel
theorem dX8_layPillars_89 : decode cX8_layPillars 89 = .ok (.iconst (-1), 1) := by decide +kernel
theorem dX8_layPillars_90 : decode cX8_layPillars 90 = .ok (.goto 7, 3) := by decide +kernel
theorem dX8_layPillars_93 : decode cX8_layPillars 93 = .ok (.aload_n 0, 1) := by decide +kernel
theorem dX8_layPillars_94 : decode cX8_layPillars 94 = .ok (.getfield 90, 3) := by decide +kernel
theorem dX8_layPillars_97 : decode cX8_layPillars 97 = .ok (.iastore, 1) := by decide +kernel
theorem dX8_layPillars_98 : decode cX8_layPillars 98 = .ok (.iload_n 3, 1) := by decide +kernel
theorem dX8_layPillars_99 : decode cX8_layPillars 99 = .ok (.ifCond .ne 38, 3) := by decide +kernel
theorem dX8_layPillars_102 : decode cX8_layPillars 102 = .ok (.aload_n 0, 1) := by decide +kernel
theorem dX8_layPillars_103 : decode cX8_layPillars 103 = .ok (.getfield 30, 3) := by decide +kernel
theorem dX8_layPillars_106 : decode cX8_layPillars 106 = .ok (.aload_n 0, 1) := by decide +kernel
theorem dX8_layPillars_107 : decode cX8_layPillars 107 = .ok (.getfield 90, 3) := by decide +kernel
theorem dX8_layPillars_110 : decode cX8_layPillars 110 = .ok (.aload_n 0, 1) := by decide +kernel
theorem dX8_layPillars_111 : decode cX8_layPillars 111 = .ok (.getfield 15, 3) := by decide +kernel
theorem dX8_layPillars_114 : decode cX8_layPillars 114 = .ok (.iload_n 2, 1) := by decide +kernel
theorem dX8_layPillars_115 : decode cX8_layPillars 115 = .ok (.iaload, 1) := by decide +kernel
theorem dX8_layPillars_116 : decode cX8_layPillars 116 = .ok (.iastore, 1) := by decide +kernel
theorem dX8_layPillars_117 : decode cX8_layPillars 117 = .ok (.aload_n 0, 1) := by decide +kernel
theorem dX8_layPillars_118 : decode cX8_layPillars 118 = .ok (.getfield 33, 3) := by decide +kernel
theorem dX8_layPillars_121 : decode cX8_layPillars 121 = .ok (.aload_n 0, 1) := by decide +kernel
theorem dX8_layPillars_122 : decode cX8_layPillars 122 = .ok (.getfield 90, 3) := by decide +kernel
theorem dX8_layPillars_125 : decode cX8_layPillars 125 = .ok (.iload_n 2, 1) := by decide +kernel
theorem dX8_layPillars_126 : decode cX8_layPillars 126 = .ok (.iastore, 1) := by decide +kernel
theorem dX8_layPillars_127 : decode cX8_layPillars 127 = .ok (.aload_n 0, 1) := by decide +kernel
theorem dX8_layPillars_128 : decode cX8_layPillars 128 = .ok (.dup, 1) := by decide +kernel
theorem dX8_layPillars_129 : decode cX8_layPillars 129 = .ok (.getfield 90, 3) := by decide +kernel
theorem dX8_layPillars_132 : decode cX8_layPillars 132 = .ok (.iconst 1, 1) := by decide +kernel
theorem dX8_layPillars_133 : decode cX8_layPillars 133 = .ok (.iadd, 1) := by decide +kernel
theorem dX8_layPillars_134 : decode cX8_layPillars 134 = .ok (.putfield 90, 3) := by decide +kernel
theorem dX8_layPillars_137 : decode cX8_layPillars 137 = .ok (.iinc 1 1, 3) := by decide +kernel
theorem dX8_layPillars_140 : decode cX8_layPillars 140 = .ok (.goto (-119), 3) := by decide +kernel
theorem dX8_layPillars_143 : decode cX8_layPillars 143 = .ok (.return_, 1) := by decide +kernel
def f_X8_layPillars_97  (k21 : Int32 → zz_Mem → Option zz_Mem) (v1 : Int32) (v2 : Int32) (v3 : Int32) (s0 : Int32) (s1 : Int32) (m : zz_Mem) : Option zz_Mem :=
  zz_ix s1 8 <| zz_letM (zz_setI m 77 s1.toNatClampNeg s0) fun m1 =>
  if v3 = 0 then (
  zz_ix v2 8 <|
  zz_ix (m1.1 72 8) 9 <| zz_letM (zz_setI m1 79 (m1.1 72 8).toNatClampNeg (m1.1 74 v2.toNatClampNeg)) fun m3 =>
  zz_ix (m3.1 72 8) 9 <| zz_letM (zz_setI m3 80 (m3.1 72 8).toNatClampNeg v2) fun m4 =>
  zz_letM (zz_setI m4 72 8 ((m4.1 72 8) + (1 : Int32))) fun m5 =>
  zz_letI (v1 + (1 : Int32)) fun x6 =>
  k21 x6 m5)
  else (
  zz_letI (v1 + (1 : Int32)) fun x2 =>
  k21 x2 m1)
theorem t_X8_layPillars_97 {l : Launch} {G : zz_G} (hN : 107 ≤ zz_N G) {k21 : Int32 → zz_Mem → Option zz_Mem} (hk21 : ∀ (v1 : Int32) (m : zz_Mem), zz_Sim zz_sh l G mX8_layPillars 0 zz_vV zz_mV (k21 v1 m) 21 [(0, .ref (zz_a G 72)), (1, .int v1)] [] m) : ∀ (v1 : Int32) (v2 : Int32) (v3 : Int32) (s0 : Int32) (s1 : Int32) (m : zz_Mem), zz_Sim zz_sh l G mX8_layPillars 0 zz_vV zz_mV (f_X8_layPillars_97 k21 v1 v2 v3 s0 s1 m) 97 [(0, .ref (zz_a G 72)), (1, .int v1), (2, .int v2), (3, .int v3)] [.int s0, .int s1, .ref (zz_a G 77)] m := by
  intro v1 v2 v3 s0 s1 m
  unfold f_X8_layPillars_97
  refine zs_iastG dX8_layPillars_97 (sh_77 hN) (fun m1 => ?_)
  refine zs_iload_n dX8_layPillars_98 rfl 3 rfl ?_
  refine zs_if_ne (tgt := 137) dX8_layPillars_99 (by decide) ?_ ?_
  · refine zs_iinc (fun y => [(1, .int y), (0, .ref (zz_a G 72)), (2, .int v2), (3, .int v3)]) dX8_layPillars_137 1 rfl ci_1 (Nat.le_of_ble_eq_true rfl) (fun _ => rfl) (fun x2 => ?_)
    refine zs_goto (tgt := 21) dX8_layPillars_140 (by decide) ?_
    refine zs_sub [1, 0] rfl ?_
    exact hk21 _ _
  · refine zs_aload_n dX8_layPillars_102 rfl 0 rfl ?_
    refine zs_getR fl_X8_30 dX8_layPillars_103 (sh_72 hN) rfl ?_
    refine zs_aload_n dX8_layPillars_106 rfl 0 rfl ?_
    refine zs_getI fl_X8_90 dX8_layPillars_107 (sh_72 hN) rfl ?_
    refine zs_aload_n dX8_layPillars_110 rfl 0 rfl ?_
    refine zs_getR fl_X8_15 dX8_layPillars_111 (sh_72 hN) rfl ?_
    refine zs_iload_n dX8_layPillars_114 rfl 2 rfl ?_
    refine zs_ialdG dX8_layPillars_115 (sh_74 hN) ?_
    refine zs_iastG dX8_layPillars_116 (sh_79 hN) (fun m3 => ?_)
    refine zs_aload_n dX8_layPillars_117 rfl 0 rfl ?_
    refine zs_getR fl_X8_33 dX8_layPillars_118 (sh_72 hN) rfl ?_
    refine zs_aload_n dX8_layPillars_121 rfl 0 rfl ?_
    refine zs_getI fl_X8_90 dX8_layPillars_122 (sh_72 hN) rfl ?_
    refine zs_iload_n dX8_layPillars_125 rfl 2 rfl ?_
    refine zs_iastG dX8_layPillars_126 (sh_80 hN) (fun m4 => ?_)
    refine zs_aload_n dX8_layPillars_127 rfl 0 rfl ?_
    refine zs_dup dX8_layPillars_128 rfl ?_
    refine zs_getI fl_X8_90 dX8_layPillars_129 (sh_72 hN) rfl ?_
    refine zs_iconst (v := (1 : Int32)) dX8_layPillars_132 ci_1 ?_
    refine zs_iadd dX8_layPillars_133 ?_
    refine zs_putI fl_X8_90 dX8_layPillars_134 (sh_72 hN) rfl ⟨rfl, rfl⟩ (fun m5 => ?_)
    refine zs_iinc (fun y => [(1, .int y), (0, .ref (zz_a G 72)), (2, .int v2), (3, .int v3)]) dX8_layPillars_137 1 rfl ci_1 (Nat.le_of_ble_eq_true rfl) (fun _ => rfl) (fun x6 => ?_)
    refine zs_goto (tgt := 21) dX8_layPillars_140 (by decide) ?_
    refine zs_sub [1, 0] rfl ?_
    exact hk21 _ _
def f_X8_layPillars_79  (k21 : Int32 → zz_Mem → Option zz_Mem) (v1 : Int32) (v2 : Int32) (s0 : Int32) (m : zz_Mem) : Option zz_Mem :=
  if s0 = 0 then (
  f_X8_layPillars_97 k21 v1 v2 s0 (m.1 72 8) v2 m)
  else (
  f_X8_layPillars_97 k21 v1 v2 s0 (-1 : Int32) v2 m)
theorem t_X8_layPillars_79 {l : Launch} {G : zz_G} (hN : 107 ≤ zz_N G) {k21 : Int32 → zz_Mem → Option zz_Mem} (hk21 : ∀ (v1 : Int32) (m : zz_Mem), zz_Sim zz_sh l G mX8_layPillars 0 zz_vV zz_mV (k21 v1 m) 21 [(0, .ref (zz_a G 72)), (1, .int v1)] [] m) : ∀ (v1 : Int32) (v2 : Int32) (s0 : Int32) (m : zz_Mem), zz_Sim zz_sh l G mX8_layPillars 0 zz_vV zz_mV (f_X8_layPillars_79 k21 v1 v2 s0 m) 79 [(0, .ref (zz_a G 72)), (1, .int v1), (2, .int v2)] [.int s0] m := by
  intro v1 v2 s0 m
  unfold f_X8_layPillars_79
  refine zs_istore_n [(3, .int s0), (0, .ref (zz_a G 72)), (1, .int v1), (2, .int v2)] dX8_layPillars_79 rfl (Nat.le_of_ble_eq_true rfl) rfl ?_
  refine zs_aload_n dX8_layPillars_80 rfl 1 rfl ?_
  refine zs_getR fl_X8_24 dX8_layPillars_81 (sh_72 hN) rfl ?_
  refine zs_iload_n dX8_layPillars_84 rfl 3 rfl ?_
  refine zs_iload_n dX8_layPillars_85 rfl 0 rfl ?_
  refine zs_if_eq (tgt := 93) dX8_layPillars_86 (by decide) ?_ ?_
  · refine zs_aload_n dX8_layPillars_93 rfl 1 rfl ?_
    refine zs_getI fl_X8_90 dX8_layPillars_94 (sh_72 hN) rfl ?_
    refine zs_sub [1, 2, 3, 0] rfl ?_
    exact t_X8_layPillars_97 hN hk21 _ _ _ _ _ _
  · refine zs_iconst (v := (-1 : Int32)) dX8_layPillars_89 ci_m1 ?_
    refine zs_goto (tgt := 97) dX8_layPillars_90 (by decide) ?_
    refine zs_sub [1, 2, 3, 0] rfl ?_
    exact t_X8_layPillars_97 hN hk21 _ _ _ _ _ _
def f_X8_layPillars_21   : Nat → Int32 → zz_Mem → Option zz_Mem
  | 0, _, _ => none
  | n + 1, v1, m =>
  if (m.1 2 5) ≤ v1 then (
  some m)
  else (
  zz_ix v1 8 <|
  zz_letI (m.1 78 v1.toNatClampNeg) fun x1 =>
  zz_ix x1 8 <|
  zz_ix ((m.1 72 8) - (1 : Int32)) 9 <|
  if (m.1 74 x1.toNatClampNeg) ≤ (m.1 79 ((m.1 72 8) - (1 : Int32)).toNatClampNeg) then (
  f_X8_layPillars_79 (f_X8_layPillars_21 n) v1 x1 (1 : Int32) m)
  else (
  zz_ix x1 8 <|
  zz_ix x1 8 <|
  if (m.1 73 x1.toNatClampNeg) < (m.1 74 x1.toNatClampNeg) then (
  f_X8_layPillars_79 (f_X8_layPillars_21 n) v1 x1 (0 : Int32) m)
  else (
  f_X8_layPillars_79 (f_X8_layPillars_21 n) v1 x1 (1 : Int32) m)))
theorem t_X8_layPillars_21 {l : Launch} {G : zz_G} (hN : 107 ≤ zz_N G)  : ∀ (n : Nat) (v1 : Int32) (m : zz_Mem), zz_Sim zz_sh l G mX8_layPillars 0 zz_vV zz_mV (f_X8_layPillars_21 n v1 m) 21 [(0, .ref (zz_a G 72)), (1, .int v1)] [] m := by
  intro n
  induction n with
  | zero => intro _ _; exact zs_none
  | succ n ih =>
    intro v1 m
    rw [f_X8_layPillars_21]
    refine zs_iload_n dX8_layPillars_21 rfl 1 rfl ?_
    refine zs_aload_n dX8_layPillars_22 rfl 0 rfl ?_
    refine zs_getR fl_X8_36 dX8_layPillars_23 (sh_72 hN) rfl ?_
    refine zs_getI fl_X8_52 dX8_layPillars_26 (sh_2 hN) rfl ?_
    refine zs_icmp_ge (tgt := 143) dX8_layPillars_29 (by decide) ?_ ?_
    · exact zs_vret dX8_layPillars_143 rfl rfl rfl
    · refine zs_aload_n dX8_layPillars_32 rfl 0 rfl ?_
      refine zs_getR fl_X8_27 dX8_layPillars_33 (sh_72 hN) rfl ?_
      refine zs_iload_n dX8_layPillars_36 rfl 1 rfl ?_
      refine zs_ialdG dX8_layPillars_37 (sh_78 hN) ?_
      refine zs_letI (fun x1 => ?_)
      refine zs_istore_n [(2, .int x1), (0, .ref (zz_a G 72)), (1, .int v1)] dX8_layPillars_38 rfl (Nat.le_of_ble_eq_true rfl) rfl ?_
      refine zs_aload_n dX8_layPillars_39 rfl 1 rfl ?_
      refine zs_getR fl_X8_15 dX8_layPillars_40 (sh_72 hN) rfl ?_
      refine zs_iload_n dX8_layPillars_43 rfl 0 rfl ?_
      refine zs_ialdG dX8_layPillars_44 (sh_74 hN) ?_
      refine zs_aload_n dX8_layPillars_45 rfl 1 rfl ?_
      refine zs_getR fl_X8_30 dX8_layPillars_46 (sh_72 hN) rfl ?_
      refine zs_aload_n dX8_layPillars_49 rfl 1 rfl ?_
      refine zs_getI fl_X8_90 dX8_layPillars_50 (sh_72 hN) rfl ?_
      refine zs_iconst (v := (1 : Int32)) dX8_layPillars_53 ci_1 ?_
      refine zs_isub dX8_layPillars_54 ?_
      refine zs_ialdG dX8_layPillars_55 (sh_79 hN) ?_
      refine zs_icmp_le (tgt := 74) dX8_layPillars_56 (by decide) ?_ ?_
      · refine zs_iconst (v := (1 : Int32)) dX8_layPillars_74 ci_1 ?_
        refine zs_goto (tgt := 79) dX8_layPillars_75 (by decide) ?_
        refine zs_sub [1, 2, 0] rfl ?_
        exact t_X8_layPillars_79 hN ih _ _ _ _
      · refine zs_aload_n dX8_layPillars_59 rfl 1 rfl ?_
        refine zs_getR fl_X8_9 dX8_layPillars_60 (sh_72 hN) rfl ?_
        refine zs_iload_n dX8_layPillars_63 rfl 0 rfl ?_
        refine zs_ialdG dX8_layPillars_64 (sh_73 hN) ?_
        refine zs_aload_n dX8_layPillars_65 rfl 1 rfl ?_
        refine zs_getR fl_X8_15 dX8_layPillars_66 (sh_72 hN) rfl ?_
        refine zs_iload_n dX8_layPillars_69 rfl 0 rfl ?_
        refine zs_ialdG dX8_layPillars_70 (sh_74 hN) ?_
        refine zs_icmp_lt (tgt := 78) dX8_layPillars_71 (by decide) ?_ ?_
        · refine zs_iconst (v := (0 : Int32)) dX8_layPillars_78 ci_0 ?_
          refine zs_sub [1, 2, 0] rfl ?_
          exact t_X8_layPillars_79 hN ih _ _ _ _
        · refine zs_iconst (v := (1 : Int32)) dX8_layPillars_74 ci_1 ?_
          refine zs_goto (tgt := 79) dX8_layPillars_75 (by decide) ?_
          refine zs_sub [1, 2, 0] rfl ?_
          exact t_X8_layPillars_79 hN ih _ _ _ _
def f_X8_layPillars   (m : zz_Mem) : Option zz_Mem :=
  zz_letM (zz_setI m 79 0 (0 : Int32)) fun m1 =>
  zz_letM (zz_setI m1 80 0 (-1 : Int32)) fun m2 =>
  zz_letM (zz_setI m2 72 8 (1 : Int32)) fun m3 =>
  f_X8_layPillars_21 zz_fuel (0 : Int32) m3
theorem k_X8_layPillars {l : Launch} {G : zz_G} (hN : 107 ≤ zz_N G) : ∀ (m : zz_Mem), zz_Con zz_sh l G mX8_layPillars 0 [.ref (zz_a G 72)] zz_vV zz_mV (f_X8_layPillars m) m := by
  intro m
  refine zz_con (lv := [(0, .ref (zz_a G 72))]) (by decide +kernel) (Nat.le_of_ble_eq_true rfl) rfl ?_
  unfold f_X8_layPillars
  refine zs_aload_n dX8_layPillars_0 rfl 0 rfl ?_
  refine zs_getR fl_X8_30 dX8_layPillars_1 (sh_72 hN) rfl ?_
  refine zs_iconst (v := (0 : Int32)) dX8_layPillars_4 ci_0 ?_
  refine zs_iconst (v := (0 : Int32)) dX8_layPillars_5 ci_0 ?_
  refine zs_iastC dX8_layPillars_6 (sh_79 hN) vin_0_9 clp_0 (fun m1 => ?_)
  refine zs_aload_n dX8_layPillars_7 rfl 0 rfl ?_
  refine zs_getR fl_X8_33 dX8_layPillars_8 (sh_72 hN) rfl ?_
  refine zs_iconst (v := (0 : Int32)) dX8_layPillars_11 ci_0 ?_
  refine zs_iconst (v := (-1 : Int32)) dX8_layPillars_12 ci_m1 ?_
  refine zs_iastC dX8_layPillars_13 (sh_80 hN) vin_0_9 clp_0 (fun m2 => ?_)
  refine zs_aload_n dX8_layPillars_14 rfl 0 rfl ?_
  refine zs_iconst (v := (1 : Int32)) dX8_layPillars_15 ci_1 ?_
  refine zs_putI fl_X8_90 dX8_layPillars_16 (sh_72 hN) rfl ⟨rfl, rfl⟩ (fun m3 => ?_)
  refine zs_iconst (v := (0 : Int32)) dX8_layPillars_19 ci_0 ?_
  refine zs_istore_n [(1, .int (0 : Int32)), (0, .ref (zz_a G 72))] dX8_layPillars_20 rfl (Nat.le_of_ble_eq_true rfl) rfl ?_
  refine zs_sub [1, 0] rfl ?_
  exact t_X8_layPillars_21 hN zz_fuel _ _
/-! X8_lay: PillarDesk$Schedule.lay()V -/
theorem dX8_lay_0 : decode cX8_lay 0 = .ok (.aload_n 0, 1) := by decide +kernel
theorem dX8_lay_1 : decode cX8_lay 1 = .ok (.getfield 45, 3) := by decide +kernel
theorem dX8_lay_4 : decode cX8_lay 4 = .ok (.invokevirtual 49, 3) := by decide +kernel
theorem dX8_lay_7 : decode cX8_lay 7 = .ok (.iconst 0, 1) := by decide +kernel
theorem dX8_lay_8 : decode cX8_lay 8 = .ok (.istore_n 1, 1) := by decide +kernel
theorem dX8_lay_9 : decode cX8_lay 9 = .ok (.iload_n 1, 1) := by decide +kernel
theorem dX8_lay_10 : decode cX8_lay 10 = .ok (.aload_n 0, 1) := by decide +kernel
theorem dX8_lay_11 : decode cX8_lay 11 = .ok (.getfield 36, 3) := by decide +kernel
theorem dX8_lay_14 : decode cX8_lay 14 = .ok (.getfield 52, 3) := by decide +kernel
theorem dX8_lay_17 : decode cX8_lay 17 = .ok (.if_icmp .ge 75, 3) := by decide +kernel
theorem dX8_lay_20 : decode cX8_lay 20 = .ok (.aload_n 0, 1) := by decide +kernel
theorem dX8_lay_21 : decode cX8_lay 21 = .ok (.getfield 9, 3) := by decide +kernel
theorem dX8_lay_24 : decode cX8_lay 24 = .ok (.iload_n 1, 1) := by decide +kernel
theorem dX8_lay_25 : decode cX8_lay 25 = .ok (.aload_n 0, 1) := by decide +kernel
theorem dX8_lay_26 : decode cX8_lay 26 = .ok (.getfield 36, 3) := by decide +kernel
theorem dX8_lay_29 : decode cX8_lay 29 = .ok (.getfield 58, 3) := by decide +kernel
theorem dX8_lay_32 : decode cX8_lay 32 = .ok (.iload_n 1, 1) := by decide +kernel
theorem dX8_lay_33 : decode cX8_lay 33 = .ok (.iaload, 1) := by decide +kernel
theorem dX8_lay_34 : decode cX8_lay 34 = .ok (.iconst 1, 1) := by decide +kernel
theorem dX8_lay_35 : decode cX8_lay 35 = .ok (.if_icmp .ne 22, 3) := by decide +kernel
theorem dX8_lay_38 : decode cX8_lay 38 = .ok (.aload_n 0, 1) := by decide +kernel
theorem dX8_lay_39 : decode cX8_lay 39 = .ok (.getfield 45, 3) := by decide +kernel
theorem dX8_lay_42 : decode cX8_lay 42 = .ok (.aload_n 0, 1) := by decide +kernel
theorem dX8_lay_43 : decode cX8_lay 43 = .ok (.getfield 36, 3) := by decide +kernel
theorem dX8_lay_46 : decode cX8_lay 46 = .ok (.getfield 61, 3) := by decide +kernel
theorem dX8_lay_49 : decode cX8_lay 49 = .ok (.iload_n 1, 1) := by decide +kernel
theorem dX8_lay_50 : decode cX8_lay 50 = .ok (.iaload, 1) := by decide +kernel
theorem dX8_lay_51 : decode cX8_lay 51 = .ok (.invokevirtual 64, 3) := by decide +kernel
theorem dX8_lay_54 : decode cX8_lay 54 = .ok (.goto 4, 3) := by decide +kernel
theorem dX8_lay_57 : decode cX8_lay 57 = .ok (.iconst 0, 1) := by decide +kernel
theorem dX8_lay_58 : decode cX8_lay 58 = .ok (.iastore, 1) := by decide +kernel
theorem dX8_lay_59 : decode cX8_lay 59 = .ok (.aload_n 0, 1) := by decide +kernel
theorem dX8_lay_60 : decode cX8_lay 60 = .ok (.getfield 15, 3) := by decide +kernel
theorem dX8_lay_63 : decode cX8_lay 63 = .ok (.iload_n 1, 1) := by decide +kernel
theorem dX8_lay_64 : decode cX8_lay 64 = .ok (.aload_n 0, 1) := by decide +kernel
theorem dX8_lay_65 : decode cX8_lay 65 = .ok (.getfield 45, 3) := by decide +kernel
theorem dX8_lay_68 : decode cX8_lay 68 = .ok (.aload_n 0, 1) := by decide +kernel
theorem dX8_lay_69 : decode cX8_lay 69 = .ok (.getfield 36, 3) := by decide +kernel
theorem dX8_lay_72 : decode cX8_lay 72 = .ok (.getfield 68, 3) := by decide +kernel
theorem dX8_lay_75 : decode cX8_lay 75 = .ok (.iload_n 1, 1) := by decide +kernel
theorem dX8_lay_76 : decode cX8_lay 76 = .ok (.iaload, 1) := by decide +kernel
theorem dX8_lay_77 : decode cX8_lay 77 = .ok (.invokevirtual 64, 3) := by decide +kernel
theorem dX8_lay_80 : decode cX8_lay 80 = .ok (.iastore, 1) := by decide +kernel
theorem dX8_lay_81 : decode cX8_lay 81 = .ok (.aload_n 0, 1) := by decide +kernel
theorem dX8_lay_82 : decode cX8_lay 82 = .ok (.iload_n 1, 1) := by decide +kernel
theorem dX8_lay_83 : decode cX8_lay 83 = .ok (.invokevirtual 71, 3) := by decide +kernel
theorem dX8_lay_86 : decode cX8_lay 86 = .ok (.iinc 1 1, 3) := by decide +kernel
theorem dX8_lay_89 : decode cX8_lay 89 = .ok (.goto (-80), 3) := by decide +kernel
theorem dX8_lay_92 : decode cX8_lay 92 = .ok (.aload_n 0, 1) := by decide +kernel
theorem dX8_lay_93 : decode cX8_lay 93 = .ok (.invokevirtual 75, 3) := by decide +kernel
theorem dX8_lay_96 : decode cX8_lay 96 = .ok (.aload_n 0, 1) := by decide +kernel
theorem dX8_lay_97 : decode cX8_lay 97 = .ok (.invokevirtual 78, 3) := by decide +kernel
theorem dX8_lay_100 : decode cX8_lay 100 = .ok (.return_, 1) := by decide +kernel
def f_X8_lay_92   (m : zz_Mem) : Option zz_Mem :=
  zz_bndR (f_X8_sortByEnds m) fun m1 =>
  zz_bndR (f_X8_layPillars m1) fun m2 =>
  some m2
theorem t_X8_lay_92 {l : Launch} {G : zz_G} (hN : 107 ≤ zz_N G)  : ∀ (m : zz_Mem), zz_Sim zz_sh l G mX8_lay 6 zz_vV zz_mV (f_X8_lay_92 m) 92 [(0, .ref (zz_a G 72))] [] m := by
  intro m
  unfold f_X8_lay_92
  refine zs_aload_n dX8_lay_92 rfl 0 rfl ?_
  refine zs_cV_vW (rest := []) (k_X8_sortByEnds hN  _) dX8_lay_93 lv_X8_75 ok_X8_sortByEnds (zz_rcv_o (sh_72 hN) rfl) (Nat.le_of_ble_eq_true rfl) rfl rfl (Nat.le_of_ble_eq_true rfl) (fun m1 => ?_)
  refine zs_aload_n dX8_lay_96 rfl 0 rfl ?_
  refine zs_cV_vW (rest := []) (k_X8_layPillars hN  _) dX8_lay_97 lv_X8_78 ok_X8_layPillars (zz_rcv_o (sh_72 hN) rfl) (Nat.le_of_ble_eq_true rfl) rfl rfl (Nat.le_of_ble_eq_true rfl) (fun m2 => ?_)
  exact zs_vret dX8_lay_100 rfl rfl rfl
def f_X8_lay_58  (k9 : Int32 → zz_Mem → Option zz_Mem) (v1 : Int32) (s0 : Int32) (s1 : Int32) (m : zz_Mem) : Option zz_Mem :=
  zz_ix s1 8 <| zz_letM (zz_setI m 73 s1.toNatClampNeg s0) fun m1 =>
  zz_ix v1 8 <|
  zz_bnd (f_X0_putOff (m1.1 6 v1.toNatClampNeg) m1) fun r2 m3 =>
  zz_ix v1 8 <| zz_letM (zz_setI m3 74 v1.toNatClampNeg r2) fun m4 =>
  zz_bndR (f_X8_layPeriods v1 m4) fun m5 =>
  zz_letI (v1 + (1 : Int32)) fun x6 =>
  k9 x6 m5
theorem t_X8_lay_58 {l : Launch} {G : zz_G} (hN : 107 ≤ zz_N G) {k9 : Int32 → zz_Mem → Option zz_Mem} (hk9 : ∀ (v1 : Int32) (m : zz_Mem), zz_Sim zz_sh l G mX8_lay 6 zz_vV zz_mV (k9 v1 m) 9 [(0, .ref (zz_a G 72)), (1, .int v1)] [] m) : ∀ (v1 : Int32) (s0 : Int32) (s1 : Int32) (m : zz_Mem), zz_Sim zz_sh l G mX8_lay 6 zz_vV zz_mV (f_X8_lay_58 k9 v1 s0 s1 m) 58 [(0, .ref (zz_a G 72)), (1, .int v1)] [.int s0, .int s1, .ref (zz_a G 73)] m := by
  intro v1 s0 s1 m
  unfold f_X8_lay_58
  refine zs_iastG dX8_lay_58 (sh_73 hN) (fun m1 => ?_)
  refine zs_aload_n dX8_lay_59 rfl 0 rfl ?_
  refine zs_getR fl_X8_15 dX8_lay_60 (sh_72 hN) rfl ?_
  refine zs_iload_n dX8_lay_63 rfl 1 rfl ?_
  refine zs_aload_n dX8_lay_64 rfl 0 rfl ?_
  refine zs_getR fl_X8_45 dX8_lay_65 (sh_72 hN) rfl ?_
  refine zs_aload_n dX8_lay_68 rfl 0 rfl ?_
  refine zs_getR fl_X8_36 dX8_lay_69 (sh_72 hN) rfl ?_
  refine zs_getR fl_X8_68 dX8_lay_72 (sh_2 hN) rfl ?_
  refine zs_iload_n dX8_lay_75 rfl 1 rfl ?_
  refine zs_ialdG dX8_lay_76 (sh_6 hN) ?_
  refine zs_cV_iW (rest := [.int v1, .ref (zz_a G 74)]) (k_X0_putOff hN _ _) dX8_lay_77 lv_X8_64 ok_X0_putOff (zz_rcv_o (sh_81 hN) rfl) (Nat.le_of_ble_eq_true rfl) rfl rfl (Nat.le_of_ble_eq_true rfl) (fun r2 m3 => ?_)
  refine zs_iastG dX8_lay_80 (sh_74 hN) (fun m4 => ?_)
  refine zs_aload_n dX8_lay_81 rfl 0 rfl ?_
  refine zs_iload_n dX8_lay_82 rfl 1 rfl ?_
  refine zs_cV_vW (rest := []) (k_X8_layPeriods hN _ _) dX8_lay_83 lv_X8_71 ok_X8_layPeriods (zz_rcv_o (sh_72 hN) rfl) (Nat.le_of_ble_eq_true rfl) rfl rfl (Nat.le_of_ble_eq_true rfl) (fun m5 => ?_)
  refine zs_iinc (fun y => [(1, .int y), (0, .ref (zz_a G 72))]) dX8_lay_86 1 rfl ci_1 (Nat.le_of_ble_eq_true rfl) (fun _ => rfl) (fun x6 => ?_)
  refine zs_goto (tgt := 9) dX8_lay_89 (by decide) ?_
  refine zs_sub [1, 0] rfl ?_
  exact hk9 _ _
def f_X8_lay_9   : Nat → Int32 → zz_Mem → Option zz_Mem
  | 0, _, _ => none
  | n + 1, v1, m =>
  if (m.1 2 5) ≤ v1 then (
  f_X8_lay_92 m)
  else (
  zz_ix v1 8 <|
  if (m.1 4 v1.toNatClampNeg) = (1 : Int32) then (
  zz_ix v1 8 <|
  zz_bnd (f_X0_putOff (m.1 5 v1.toNatClampNeg) m) fun r1 m2 =>
  f_X8_lay_58 (f_X8_lay_9 n) v1 r1 v1 m2)
  else (
  f_X8_lay_58 (f_X8_lay_9 n) v1 (0 : Int32) v1 m))
theorem t_X8_lay_9 {l : Launch} {G : zz_G} (hN : 107 ≤ zz_N G)  : ∀ (n : Nat) (v1 : Int32) (m : zz_Mem), zz_Sim zz_sh l G mX8_lay 6 zz_vV zz_mV (f_X8_lay_9 n v1 m) 9 [(0, .ref (zz_a G 72)), (1, .int v1)] [] m := by
  intro n
  induction n with
  | zero => intro _ _; exact zs_none
  | succ n ih =>
    intro v1 m
    rw [f_X8_lay_9]
    refine zs_iload_n dX8_lay_9 rfl 1 rfl ?_
    refine zs_aload_n dX8_lay_10 rfl 0 rfl ?_
    refine zs_getR fl_X8_36 dX8_lay_11 (sh_72 hN) rfl ?_
    refine zs_getI fl_X8_52 dX8_lay_14 (sh_2 hN) rfl ?_
    refine zs_icmp_ge (tgt := 92) dX8_lay_17 (by decide) ?_ ?_
    · refine zs_sub [0] rfl ?_
      exact t_X8_lay_92 hN _
    · refine zs_aload_n dX8_lay_20 rfl 0 rfl ?_
      refine zs_getR fl_X8_9 dX8_lay_21 (sh_72 hN) rfl ?_
      refine zs_iload_n dX8_lay_24 rfl 1 rfl ?_
      refine zs_aload_n dX8_lay_25 rfl 0 rfl ?_
      refine zs_getR fl_X8_36 dX8_lay_26 (sh_72 hN) rfl ?_
      refine zs_getR fl_X8_58 dX8_lay_29 (sh_2 hN) rfl ?_
      refine zs_iload_n dX8_lay_32 rfl 1 rfl ?_
      refine zs_ialdG dX8_lay_33 (sh_4 hN) ?_
      refine zs_iconst (v := (1 : Int32)) dX8_lay_34 ci_1 ?_
      refine zs_icmp_ne (tgt := 57) dX8_lay_35 (by decide) ?_ ?_
      · refine zs_iconst (v := (0 : Int32)) dX8_lay_57 ci_0 ?_
        exact t_X8_lay_58 hN ih _ _ _ _
      · refine zs_aload_n dX8_lay_38 rfl 0 rfl ?_
        refine zs_getR fl_X8_45 dX8_lay_39 (sh_72 hN) rfl ?_
        refine zs_aload_n dX8_lay_42 rfl 0 rfl ?_
        refine zs_getR fl_X8_36 dX8_lay_43 (sh_72 hN) rfl ?_
        refine zs_getR fl_X8_61 dX8_lay_46 (sh_2 hN) rfl ?_
        refine zs_iload_n dX8_lay_49 rfl 1 rfl ?_
        refine zs_ialdG dX8_lay_50 (sh_5 hN) ?_
        refine zs_cV_iW (rest := [.int v1, .ref (zz_a G 73)]) (k_X0_putOff hN _ _) dX8_lay_51 lv_X8_64 ok_X0_putOff (zz_rcv_o (sh_81 hN) rfl) (Nat.le_of_ble_eq_true rfl) rfl rfl (Nat.le_of_ble_eq_true rfl) (fun r1 m2 => ?_)
        refine zs_goto (tgt := 58) dX8_lay_54 (by decide) ?_
        exact t_X8_lay_58 hN ih _ _ _ _
def f_X8_lay   (m : zz_Mem) : Option zz_Mem :=
  zz_bndR (f_X0_forget m) fun m1 =>
  f_X8_lay_9 zz_fuel (0 : Int32) m1
theorem k_X8_lay {l : Launch} {G : zz_G} (hN : 107 ≤ zz_N G) : ∀ (m : zz_Mem), zz_Con zz_sh l G mX8_lay 6 [.ref (zz_a G 72)] zz_vV zz_mV (f_X8_lay m) m := by
  intro m
  refine zz_con (lv := [(0, .ref (zz_a G 72))]) (by decide +kernel) (Nat.le_of_ble_eq_true rfl) rfl ?_
  unfold f_X8_lay
  refine zs_aload_n dX8_lay_0 rfl 0 rfl ?_
  refine zs_getR fl_X8_45 dX8_lay_1 (sh_72 hN) rfl ?_
  refine zs_cV_vW (rest := []) (k_X0_forget hN  _) dX8_lay_4 lv_X8_49 ok_X0_forget (zz_rcv_o (sh_81 hN) rfl) (Nat.le_of_ble_eq_true rfl) rfl rfl (Nat.le_of_ble_eq_true rfl) (fun m1 => ?_)
  refine zs_iconst (v := (0 : Int32)) dX8_lay_7 ci_0 ?_
  refine zs_istore_n [(1, .int (0 : Int32)), (0, .ref (zz_a G 72))] dX8_lay_8 rfl (Nat.le_of_ble_eq_true rfl) rfl ?_
  refine zs_sub [1, 0] rfl ?_
  exact t_X8_lay_9 hN zz_fuel _ _
/-! X8_hasPillar: PillarDesk$Schedule.hasPillar(I)Z -/
theorem dX8_hasPillar_0 : decode cX8_hasPillar 0 = .ok (.iload_n 1, 1) := by decide +kernel
theorem dX8_hasPillar_1 : decode cX8_hasPillar 1 = .ok (.ifCond .lt 21, 3) := by decide +kernel
theorem dX8_hasPillar_4 : decode cX8_hasPillar 4 = .ok (.iload_n 1, 1) := by decide +kernel
theorem dX8_hasPillar_5 : decode cX8_hasPillar 5 = .ok (.aload_n 0, 1) := by decide +kernel
theorem dX8_hasPillar_6 : decode cX8_hasPillar 6 = .ok (.getfield 90, 3) := by decide +kernel
theorem dX8_hasPillar_9 : decode cX8_hasPillar 9 = .ok (.if_icmp .ge 13, 3) := by decide +kernel
theorem dX8_hasPillar_12 : decode cX8_hasPillar 12 = .ok (.iload_n 1, 1) := by decide +kernel
theorem dX8_hasPillar_13 : decode cX8_hasPillar 13 = .ok (.bipush 9, 2) := by decide +kernel
theorem dX8_hasPillar_15 : decode cX8_hasPillar 15 = .ok (.if_icmp .ge 7, 3) := by decide +kernel
theorem dX8_hasPillar_18 : decode cX8_hasPillar 18 = .ok (.iconst 1, 1) := by decide +kernel
theorem dX8_hasPillar_19 : decode cX8_hasPillar 19 = .ok (.goto 4, 3) := by decide +kernel
theorem dX8_hasPillar_22 : decode cX8_hasPillar 22 = .ok (.iconst 0, 1) := by decide +kernel
theorem dX8_hasPillar_23 : decode cX8_hasPillar 23 = .ok (.ireturn, 1) := by decide +kernel
def f_X8_hasPillar (m : zz_Mem) (p1 : Int32) : Option Int32 :=
  if p1 < 0 then (
  some (0 : Int32))
  else (
  if (m.1 72 8) ≤ p1 then (
  some (0 : Int32))
  else (
  if (9 : Int32) ≤ p1 then (
  some (0 : Int32))
  else (
  some (1 : Int32))))
theorem k_X8_hasPillar {l : Launch} {G : zz_G} (hN : 107 ≤ zz_N G) : ∀ (p1 : Int32) (m : zz_Mem), zz_Con zz_sh l G mX8_hasPillar 0 [.ref (zz_a G 72), .int p1] zz_vIr (zz_mC m) (f_X8_hasPillar m p1) m := by
  intro p1 m
  refine zz_con (lv := [(0, .ref (zz_a G 72)), (1, .int p1)]) (by decide +kernel) (Nat.le_of_ble_eq_true rfl) rfl ?_
  unfold f_X8_hasPillar
  refine zs_iload_n dX8_hasPillar_0 rfl 1 rfl ?_
  refine zs_if_lt (tgt := 22) dX8_hasPillar_1 (by decide) ?_ ?_
  · refine zs_iconst (v := (0 : Int32)) dX8_hasPillar_22 ci_0 ?_
    exact zs_zret dX8_hasPillar_23 rfl rfl rfl rfl
  · refine zs_iload_n dX8_hasPillar_4 rfl 1 rfl ?_
    refine zs_aload_n dX8_hasPillar_5 rfl 0 rfl ?_
    refine zs_getI fl_X8_90 dX8_hasPillar_6 (sh_72 hN) rfl ?_
    refine zs_icmp_ge (tgt := 22) dX8_hasPillar_9 (by decide) ?_ ?_
    · refine zs_iconst (v := (0 : Int32)) dX8_hasPillar_22 ci_0 ?_
      exact zs_zret dX8_hasPillar_23 rfl rfl rfl rfl
    · refine zs_iload_n dX8_hasPillar_12 rfl 1 rfl ?_
      refine zs_bipush (v := (9 : Int32)) dX8_hasPillar_13 cb_9 ?_
      refine zs_icmp_ge (tgt := 22) dX8_hasPillar_15 (by decide) ?_ ?_
      · refine zs_iconst (v := (0 : Int32)) dX8_hasPillar_22 ci_0 ?_
        exact zs_zret dX8_hasPillar_23 rfl rfl rfl rfl
      · refine zs_iconst (v := (1 : Int32)) dX8_hasPillar_18 ci_1 ?_
        refine zs_goto (tgt := 23) dX8_hasPillar_19 (by decide) ?_
        exact zs_zret dX8_hasPillar_23 rfl rfl rfl rfl
/-! X8_periodEnd: PillarDesk$Schedule.periodEnd(II)I -/
theorem dX8_periodEnd_0 : decode cX8_periodEnd 0 = .ok (.aload_n 0, 1) := by decide +kernel
theorem dX8_periodEnd_1 : decode cX8_periodEnd 1 = .ok (.getfield 21, 3) := by decide +kernel
theorem dX8_periodEnd_4 : decode cX8_periodEnd 4 = .ok (.iload_n 1, 1) := by decide +kernel
theorem dX8_periodEnd_5 : decode cX8_periodEnd 5 = .ok (.bipush 34, 2) := by decide +kernel
theorem dX8_periodEnd_7 : decode cX8_periodEnd 7 = .ok (.imul, 1) := by decide +kernel
theorem dX8_periodEnd_8 : decode cX8_periodEnd 8 = .ok (.iload_n 2, 1) := by decide +kernel
theorem dX8_periodEnd_9 : decode cX8_periodEnd 9 = .ok (.iadd, 1) := by decide +kernel
theorem dX8_periodEnd_10 : decode cX8_periodEnd 10 = .ok (.iaload, 1) := by decide +kernel
theorem dX8_periodEnd_11 : decode cX8_periodEnd 11 = .ok (.ireturn, 1) := by decide +kernel
def f_X8_periodEnd (m : zz_Mem) (p1 : Int32) (p2 : Int32) : Option Int32 :=
  zz_ix ((p1 * (34 : Int32)) + p2) 272 <|
  some (m.1 76 ((p1 * (34 : Int32)) + p2).toNatClampNeg)
theorem k_X8_periodEnd {l : Launch} {G : zz_G} (hN : 107 ≤ zz_N G) : ∀ (p1 : Int32) (p2 : Int32) (m : zz_Mem), zz_Con zz_sh l G mX8_periodEnd 0 [.ref (zz_a G 72), .int p1, .int p2] zz_vIr (zz_mC m) (f_X8_periodEnd m p1 p2) m := by
  intro p1 p2 m
  refine zz_con (lv := [(0, .ref (zz_a G 72)), (1, .int p1), (2, .int p2)]) (by decide +kernel) (Nat.le_of_ble_eq_true rfl) rfl ?_
  unfold f_X8_periodEnd
  refine zs_aload_n dX8_periodEnd_0 rfl 0 rfl ?_
  refine zs_getR fl_X8_21 dX8_periodEnd_1 (sh_72 hN) rfl ?_
  refine zs_iload_n dX8_periodEnd_4 rfl 1 rfl ?_
  refine zs_bipush (v := (34 : Int32)) dX8_periodEnd_5 cb_34 ?_
  refine zs_imul dX8_periodEnd_7 ?_
  refine zs_iload_n dX8_periodEnd_8 rfl 2 rfl ?_
  refine zs_iadd dX8_periodEnd_9 ?_
  refine zs_ialdG dX8_periodEnd_10 (sh_76 hN) ?_
  exact zs_iret dX8_periodEnd_11 rfl rfl rfl
/-! X8_periodDays: PillarDesk$Schedule.periodDays(II)I -/
theorem dX8_periodDays_0 : decode cX8_periodDays 0 = .ok (.iload_n 2, 1) := by decide +kernel
theorem dX8_periodDays_1 : decode cX8_periodDays 1 = .ok (.ifCond .le 21, 3) := by decide +kernel
theorem dX8_periodDays_4 : decode cX8_periodDays 4 = .ok (.aload_n 0, 1) := by decide +kernel
theorem dX8_periodDays_5 : decode cX8_periodDays 5 = .ok (.iload_n 1, 1) := by decide +kernel
theorem dX8_periodDays_6 : decode cX8_periodDays 6 = .ok (.iload_n 2, 1) := by decide +kernel
theorem dX8_periodDays_7 : decode cX8_periodDays 7 = .ok (.invokevirtual 93, 3) := by decide +kernel
theorem dX8_periodDays_10 : decode cX8_periodDays 10 = .ok (.aload_n 0, 1) := by decide +kernel
theorem dX8_periodDays_11 : decode cX8_periodDays 11 = .ok (.iload_n 1, 1) := by decide +kernel
theorem dX8_periodDays_12 : decode cX8_periodDays 12 = .ok (.iload_n 2, 1) := by decide +kernel
theorem dX8_periodDays_13 : decode cX8_periodDays 13 = .ok (.iconst 1, 1) := by decide +kernel
theorem dX8_periodDays_14 : decode cX8_periodDays 14 = .ok (.isub, 1) := by decide +kernel
theorem dX8_periodDays_15 : decode cX8_periodDays 15 = .ok (.invokevirtual 93, 3) := by decide +kernel
theorem dX8_periodDays_18 : decode cX8_periodDays 18 = .ok (.isub, 1) := by decide +kernel
theorem dX8_periodDays_19 : decode cX8_periodDays 19 = .ok (.goto 9, 3) := by decide +kernel
theorem dX8_periodDays_22 : decode cX8_periodDays 22 = .ok (.aload_n 0, 1) := by decide +kernel
theorem dX8_periodDays_23 : decode cX8_periodDays 23 = .ok (.iload_n 1, 1) := by decide +kernel
theorem dX8_periodDays_24 : decode cX8_periodDays 24 = .ok (.iload_n 2, 1) := by decide +kernel
theorem dX8_periodDays_25 : decode cX8_periodDays 25 = .ok (.invokevirtual 93, 3) := by decide +kernel
theorem dX8_periodDays_28 : decode cX8_periodDays 28 = .ok (.ireturn, 1) := by decide +kernel
def f_X8_periodDays (m : zz_Mem) (p1 : Int32) (p2 : Int32) : Option Int32 :=
  if p2 ≤ 0 then (
  zz_bndR (f_X8_periodEnd m p1 p2) fun r1 =>
  some r1)
  else (
  zz_bndR (f_X8_periodEnd m p1 p2) fun r2 =>
  zz_bndR (f_X8_periodEnd m p1 (p2 - (1 : Int32))) fun r3 =>
  some (r2 - r3))
theorem k_X8_periodDays {l : Launch} {G : zz_G} (hN : 107 ≤ zz_N G) : ∀ (p1 : Int32) (p2 : Int32) (m : zz_Mem), zz_Con zz_sh l G mX8_periodDays 1 [.ref (zz_a G 72), .int p1, .int p2] zz_vIr (zz_mC m) (f_X8_periodDays m p1 p2) m := by
  intro p1 p2 m
  refine zz_con (lv := [(0, .ref (zz_a G 72)), (1, .int p1), (2, .int p2)]) (by decide +kernel) (Nat.le_of_ble_eq_true rfl) rfl ?_
  unfold f_X8_periodDays
  refine zs_iload_n dX8_periodDays_0 rfl 2 rfl ?_
  refine zs_if_le (tgt := 22) dX8_periodDays_1 (by decide) ?_ ?_
  · refine zs_aload_n dX8_periodDays_22 rfl 0 rfl ?_
    refine zs_iload_n dX8_periodDays_23 rfl 1 rfl ?_
    refine zs_iload_n dX8_periodDays_24 rfl 2 rfl ?_
    refine zs_cV_iR (rest := []) (k_X8_periodEnd hN _ _ _) dX8_periodDays_25 lv_X8_93 ok_X8_periodEnd (zz_rcv_o (sh_72 hN) rfl) (Nat.le_of_ble_eq_true rfl) rfl rfl (Nat.le_of_ble_eq_true rfl) (fun r1 => ?_)
    exact zs_iret dX8_periodDays_28 rfl rfl rfl
  · refine zs_aload_n dX8_periodDays_4 rfl 0 rfl ?_
    refine zs_iload_n dX8_periodDays_5 rfl 1 rfl ?_
    refine zs_iload_n dX8_periodDays_6 rfl 2 rfl ?_
    refine zs_cV_iR (rest := []) (k_X8_periodEnd hN _ _ _) dX8_periodDays_7 lv_X8_93 ok_X8_periodEnd (zz_rcv_o (sh_72 hN) rfl) (Nat.le_of_ble_eq_true rfl) rfl rfl (Nat.le_of_ble_eq_true rfl) (fun r2 => ?_)
    refine zs_aload_n dX8_periodDays_10 rfl 0 rfl ?_
    refine zs_iload_n dX8_periodDays_11 rfl 1 rfl ?_
    refine zs_iload_n dX8_periodDays_12 rfl 2 rfl ?_
    refine zs_iconst (v := (1 : Int32)) dX8_periodDays_13 ci_1 ?_
    refine zs_isub dX8_periodDays_14 ?_
    refine zs_cV_iR (rest := [.int r2]) (k_X8_periodEnd hN _ _ _) dX8_periodDays_15 lv_X8_93 ok_X8_periodEnd (zz_rcv_o (sh_72 hN) rfl) (Nat.le_of_ble_eq_true rfl) rfl rfl (Nat.le_of_ble_eq_true rfl) (fun r3 => ?_)
    refine zs_isub dX8_periodDays_18 ?_
    refine zs_goto (tgt := 28) dX8_periodDays_19 (by decide) ?_
    exact zs_iret dX8_periodDays_28 rfl rfl rfl
/-! X8_daysOf: PillarDesk$Schedule.daysOf(I)I -/
theorem dX8_daysOf_0 : decode cX8_daysOf 0 = .ok (.aload_n 0, 1) := by decide +kernel
theorem dX8_daysOf_1 : decode cX8_daysOf 1 = .ok (.getfield 15, 3) := by decide +kernel
theorem dX8_daysOf_4 : decode cX8_daysOf 4 = .ok (.iload_n 1, 1) := by decide +kernel
theorem dX8_daysOf_5 : decode cX8_daysOf 5 = .ok (.iaload, 1) := by decide +kernel
theorem dX8_daysOf_6 : decode cX8_daysOf 6 = .ok (.aload_n 0, 1) := by decide +kernel
theorem dX8_daysOf_7 : decode cX8_daysOf 7 = .ok (.getfield 9, 3) := by decide +kernel
theorem dX8_daysOf_10 : decode cX8_daysOf 10 = .ok (.iload_n 1, 1) := by decide +kernel
theorem dX8_daysOf_11 : decode cX8_daysOf 11 = .ok (.iaload, 1) := by decide +kernel
theorem dX8_daysOf_12 : decode cX8_daysOf 12 = .ok (.isub, 1) := by decide +kernel
theorem dX8_daysOf_13 : decode cX8_daysOf 13 = .ok (.ireturn, 1) := by decide +kernel
def f_X8_daysOf (m : zz_Mem) (p1 : Int32) : Option Int32 :=
  zz_ix p1 8 <|
  zz_ix p1 8 <|
  some ((m.1 74 p1.toNatClampNeg) - (m.1 73 p1.toNatClampNeg))
theorem k_X8_daysOf {l : Launch} {G : zz_G} (hN : 107 ≤ zz_N G) : ∀ (p1 : Int32) (m : zz_Mem), zz_Con zz_sh l G mX8_daysOf 0 [.ref (zz_a G 72), .int p1] zz_vIr (zz_mC m) (f_X8_daysOf m p1) m := by
  intro p1 m
  refine zz_con (lv := [(0, .ref (zz_a G 72)), (1, .int p1)]) (by decide +kernel) (Nat.le_of_ble_eq_true rfl) rfl ?_
  unfold f_X8_daysOf
  refine zs_aload_n dX8_daysOf_0 rfl 0 rfl ?_
  refine zs_getR fl_X8_15 dX8_daysOf_1 (sh_72 hN) rfl ?_
  refine zs_iload_n dX8_daysOf_4 rfl 1 rfl ?_
  refine zs_ialdG dX8_daysOf_5 (sh_74 hN) ?_
  refine zs_aload_n dX8_daysOf_6 rfl 0 rfl ?_
  refine zs_getR fl_X8_9 dX8_daysOf_7 (sh_72 hN) rfl ?_
  refine zs_iload_n dX8_daysOf_10 rfl 1 rfl ?_
  refine zs_ialdG dX8_daysOf_11 (sh_73 hN) ?_
  refine zs_isub dX8_daysOf_12 ?_
  exact zs_iret dX8_daysOf_13 rfl rfl rfl
/-! X8_pillarAt: PillarDesk$Schedule.pillarAt(I)I -/
theorem dX8_pillarAt_0 : decode cX8_pillarAt 0 = .ok (.aload_n 0, 1) := by decide +kernel
theorem dX8_pillarAt_1 : decode cX8_pillarAt 1 = .ok (.getfield 90, 3) := by decide +kernel
theorem dX8_pillarAt_4 : decode cX8_pillarAt 4 = .ok (.iconst 1, 1) := by decide +kernel
theorem dX8_pillarAt_5 : decode cX8_pillarAt 5 = .ok (.isub, 1) := by decide +kernel
theorem dX8_pillarAt_6 : decode cX8_pillarAt 6 = .ok (.istore_n 2, 1) := by decide +kernel
theorem dX8_pillarAt_7 : decode cX8_pillarAt 7 = .ok (.iload_n 2, 1) := by decide +kernel
theorem dX8_pillarAt_8 : decode cX8_pillarAt 8 = .ok (.ifCond .le 19, 3) := by decide +kernel
theorem dX8_pillarAt_11 : decode cX8_pillarAt 11 = .ok (.aload_n 0, 1) := by decide +kernel
theorem dX8_pillarAt_12 : decode cX8_pillarAt 12 = .ok (.getfield 30, 3) := by decide +kernel
theorem dX8_pillarAt_15 : decode cX8_pillarAt 15 = .ok (.iload_n 2, 1) := by decide +kernel
theorem dX8_pillarAt_16 : decode cX8_pillarAt 16 = .ok (.iaload, 1) := by decide +kernel
theorem dX8_pillarAt_17 : decode cX8_pillarAt 17 = .ok (.iload_n 1, 1) := by decide +kernel
theorem dX8_pillarAt_18 : decode cX8_pillarAt 18 = .ok (.if_icmp .le 9, 3) := by decide +kernel
theorem dX8_pillarAt_21 : decode cX8_pillarAt 21 = .ok (.iinc 2 (-1), 3) := by decide +kernel
theorem dX8_pillarAt_24 : decode cX8_pillarAt 24 = .ok (.goto (-17), 3) := by decide +kernel
theorem dX8_pillarAt_27 : decode cX8_pillarAt 27 = .ok (.iload_n 2, 1) := by decide +kernel
theorem dX8_pillarAt_28 : decode cX8_pillarAt 28 = .ok (.ireturn, 1) := by decide +kernel
def f_X8_pillarAt_7 (m : zz_Mem)  : Nat → Int32 → Int32 → Option Int32
  | 0, _, _ => none
  | n + 1, v1, v2 =>
  if v2 ≤ 0 then (
  some v2)
  else (
  zz_ix v2 9 <|
  if (m.1 79 v2.toNatClampNeg) ≤ v1 then (
  some v2)
  else (
  zz_letI (v2 + (-1 : Int32)) fun x1 =>
  f_X8_pillarAt_7 m n v1 x1))
theorem t_X8_pillarAt_7 {l : Launch} {G : zz_G} (hN : 107 ≤ zz_N G) {m : zz_Mem}  : ∀ (n : Nat) (v1 : Int32) (v2 : Int32), zz_Sim zz_sh l G mX8_pillarAt 0 zz_vIr (zz_mC m) (f_X8_pillarAt_7 m n v1 v2) 7 [(0, .ref (zz_a G 72)), (1, .int v1), (2, .int v2)] [] m := by
  intro n
  induction n with
  | zero => intro _ _; exact zs_none
  | succ n ih =>
    intro v1 v2
    rw [f_X8_pillarAt_7]
    refine zs_iload_n dX8_pillarAt_7 rfl 2 rfl ?_
    refine zs_if_le (tgt := 27) dX8_pillarAt_8 (by decide) ?_ ?_
    · refine zs_iload_n dX8_pillarAt_27 rfl 2 rfl ?_
      exact zs_iret dX8_pillarAt_28 rfl rfl rfl
    · refine zs_aload_n dX8_pillarAt_11 rfl 0 rfl ?_
      refine zs_getR fl_X8_30 dX8_pillarAt_12 (sh_72 hN) rfl ?_
      refine zs_iload_n dX8_pillarAt_15 rfl 2 rfl ?_
      refine zs_ialdG dX8_pillarAt_16 (sh_79 hN) ?_
      refine zs_iload_n dX8_pillarAt_17 rfl 1 rfl ?_
      refine zs_icmp_le (tgt := 27) dX8_pillarAt_18 (by decide) ?_ ?_
      · refine zs_iload_n dX8_pillarAt_27 rfl 2 rfl ?_
        exact zs_iret dX8_pillarAt_28 rfl rfl rfl
      · refine zs_iinc (fun y => [(2, .int y), (0, .ref (zz_a G 72)), (1, .int v1)]) dX8_pillarAt_21 2 rfl ci_m1 (Nat.le_of_ble_eq_true rfl) (fun _ => rfl) (fun x1 => ?_)
        refine zs_goto (tgt := 7) dX8_pillarAt_24 (by decide) ?_
        refine zs_sub [1, 2, 0] rfl ?_
        exact ih _ _
def f_X8_pillarAt (m : zz_Mem) (p1 : Int32) : Option Int32 :=
  zz_letI ((m.1 72 8) - (1 : Int32)) fun x1 =>
  f_X8_pillarAt_7 m zz_fuel p1 x1
theorem k_X8_pillarAt {l : Launch} {G : zz_G} (hN : 107 ≤ zz_N G) : ∀ (p1 : Int32) (m : zz_Mem), zz_Con zz_sh l G mX8_pillarAt 0 [.ref (zz_a G 72), .int p1] zz_vIr (zz_mC m) (f_X8_pillarAt m p1) m := by
  intro p1 m
  refine zz_con (lv := [(0, .ref (zz_a G 72)), (1, .int p1)]) (by decide +kernel) (Nat.le_of_ble_eq_true rfl) rfl ?_
  unfold f_X8_pillarAt
  refine zs_aload_n dX8_pillarAt_0 rfl 0 rfl ?_
  refine zs_getI fl_X8_90 dX8_pillarAt_1 (sh_72 hN) rfl ?_
  refine zs_iconst (v := (1 : Int32)) dX8_pillarAt_4 ci_1 ?_
  refine zs_isub dX8_pillarAt_5 ?_
  refine zs_letI (fun x1 => ?_)
  refine zs_istore_n [(2, .int x1), (0, .ref (zz_a G 72)), (1, .int p1)] dX8_pillarAt_6 rfl (Nat.le_of_ble_eq_true rfl) rfl ?_
  refine zs_sub [1, 2, 0] rfl ?_
  exact t_X8_pillarAt_7 hN zz_fuel _ _
/-! X8_weight: PillarDesk$Schedule.weight(II)I -/
theorem dX8_weight_0 : decode cX8_weight 0 = .ok (.aload_n 0, 1) := by decide +kernel
theorem dX8_weight_1 : decode cX8_weight 1 = .ok (.iload_n 2, 1) := by decide +kernel
theorem dX8_weight_2 : decode cX8_weight 2 = .ok (.invokevirtual 96, 3) := by decide +kernel
theorem dX8_weight_5 : decode cX8_weight 5 = .ok (.istore_n 3, 1) := by decide +kernel
theorem dX8_weight_6 : decode cX8_weight 6 = .ok (.iload_n 3, 1) := by decide +kernel
theorem dX8_weight_7 : decode cX8_weight 7 = .ok (.iconst 1, 1) := by decide +kernel
theorem dX8_weight_8 : decode cX8_weight 8 = .ok (.iadd, 1) := by decide +kernel
theorem dX8_weight_9 : decode cX8_weight 9 = .ok (.aload_n 0, 1) := by decide +kernel
theorem dX8_weight_10 : decode cX8_weight 10 = .ok (.getfield 90, 3) := by decide +kernel
theorem dX8_weight_13 : decode cX8_weight 13 = .ok (.if_icmp .ge 21, 3) := by decide +kernel
theorem dX8_weight_16 : decode cX8_weight 16 = .ok (.aload_n 0, 1) := by decide +kernel
theorem dX8_weight_17 : decode cX8_weight 17 = .ok (.getfield 30, 3) := by decide +kernel
theorem dX8_weight_20 : decode cX8_weight 20 = .ok (.iload_n 3, 1) := by decide +kernel
theorem dX8_weight_21 : decode cX8_weight 21 = .ok (.iconst 1, 1) := by decide +kernel
theorem dX8_weight_22 : decode cX8_weight 22 = .ok (.iadd, 1) := by decide +kernel
theorem dX8_weight_23 : decode cX8_weight 23 = .ok (.iaload, 1) := by decide +kernel
theorem dX8_weight_24 : decode cX8_weight 24 = .ok (.aload_n 0, 1) := by decide +kernel
theorem dX8_weight_25 : decode cX8_weight 25 = .ok (.getfield 30, 3) := by decide +kernel
theorem dX8_weight_28 : decode cX8_weight 28 = .ok (.iload_n 3, 1) := by decide +kernel
theorem dX8_weight_29 : decode cX8_weight 29 = .ok (.iaload, 1) := by decide +kernel
theorem dX8_weight_30 : decode cX8_weight 30 = .ok (.isub, 1) := by decide +kernel
theorem dX8_weight_31 : decode cX8_weight 31 = .ok (.goto 4, 3) := by decide +kernel
theorem dX8_weight_34 : decode cX8_weight 34 = .ok (.iconst 0, 1) := by decide +kernel
theorem dX8_weight_35 : decode cX8_weight 35 = .ok (.istore 4, 2) := by decide +kernel
theorem dX8_weight_37 : decode cX8_weight 37 = .ok (.iload 4, 2) := by decide +kernel
theorem dX8_weight_39 : decode cX8_weight 39 = .ok (.ifCond .le 24, 3) := by decide +kernel
theorem dX8_weight_42 : decode cX8_weight 42 = .ok (.aload_n 0, 1) := by decide +kernel
theorem dX8_weight_43 : decode cX8_weight 43 = .ok (.getfield 36, 3) := by decide +kernel
theorem dX8_weight_46 : decode cX8_weight 46 = .ok (.getfield 99, 3) := by decide +kernel
theorem dX8_weight_49 : decode cX8_weight 49 = .ok (.iconst 1, 1) := by decide +kernel
theorem dX8_weight_50 : decode cX8_weight 50 = .ok (.if_icmp .eq 13, 3) := by decide +kernel
theorem dX8_weight_53 : decode cX8_weight 53 = .ok (.iload_n 2, 1) := by decide +kernel
theorem dX8_weight_54 : decode cX8_weight 54 = .ok (.aload_n 0, 1) := by decide +kernel
theorem dX8_weight_55 : decode cX8_weight 55 = .ok (.getfield 30, 3) := by decide +kernel
theorem dX8_weight_58 : decode cX8_weight 58 = .ok (.iload_n 3, 1) := by decide +kernel
theorem dX8_weight_59 : decode cX8_weight 59 = .ok (.iaload, 1) := by decide +kernel
theorem dX8_weight_60 : decode cX8_weight 60 = .ok (.if_icmp .ne 16, 3) := by decide +kernel
theorem dX8_weight_63 : decode cX8_weight 63 = .ok (.iload_n 1, 1) := by decide +kernel
theorem dX8_weight_64 : decode cX8_weight 64 = .ok (.iload_n 3, 1) := by decide +kernel
theorem dX8_weight_65 : decode cX8_weight 65 = .ok (.if_icmp .ne 9, 3) := by decide +kernel
theorem dX8_weight_68 : decode cX8_weight 68 = .ok (.sipush 1000, 3) := by decide +kernel
theorem dX8_weight_71 : decode cX8_weight 71 = .ok (.goto 4, 3) := by decide +kernel
theorem dX8_weight_74 : decode cX8_weight 74 = .ok (.iconst 0, 1) := by decide +kernel
theorem dX8_weight_75 : decode cX8_weight 75 = .ok (.ireturn, 1) := by decide +kernel
theorem dX8_weight_76 : decode cX8_weight 76 = .ok (.iload_n 2, 1) := by decide +kernel
theorem dX8_weight_77 : decode cX8_weight 77 = .ok (.aload_n 0, 1) := by decide +kernel
theorem dX8_weight_78 : decode cX8_weight 78 = .ok (.getfield 30, 3) := by decide +kernel
theorem dX8_weight_81 : decode cX8_weight 81 = .ok (.iload_n 3, 1) := by decide +kernel
theorem dX8_weight_82 : decode cX8_weight 82 = .ok (.iaload, 1) := by decide +kernel
theorem dX8_weight_83 : decode cX8_weight 83 = .ok (.isub, 1) := by decide +kernel
theorem dX8_weight_84 : decode cX8_weight 84 = .ok (.sipush 1000, 3) := by decide +kernel
theorem dX8_weight_87 : decode cX8_weight 87 = .ok (.imul, 1) := by decide +kernel
theorem dX8_weight_88 : decode cX8_weight 88 = .ok (.iload 4, 2) := by decide +kernel
theorem dX8_weight_90 : decode cX8_weight 90 = .ok (.idiv, 1) := by decide +kernel
theorem dX8_weight_91 : decode cX8_weight 91 = .ok (.istore 5, 2) := by decide +kernel
theorem dX8_weight_93 : decode cX8_weight 93 = .ok (.iload_n 1, 1) := by decide +kernel
theorem dX8_weight_94 : decode cX8_weight 94 = .ok (.iload_n 3, 1) := by decide +kernel
theorem dX8_weight_95 : decode cX8_weight 95 = .ok (.iconst 1, 1) := by decide +kernel
theorem dX8_weight_96 : decode cX8_weight 96 = .ok (.iadd, 1) := by decide +kernel
theorem dX8_weight_97 : decode cX8_weight 97 = .ok (.if_icmp .ne 8, 3) := by decide +kernel
theorem dX8_weight_100 : decode cX8_weight 100 = .ok (.iload 5, 2) := by decide +kernel
theorem dX8_weight_102 : decode cX8_weight 102 = .ok (.goto 18, 3) := by decide +kernel
theorem dX8_weight_105 : decode cX8_weight 105 = .ok (.iload_n 1, 1) := by decide +kernel
theorem dX8_weight_106 : decode cX8_weight 106 = .ok (.iload_n 3, 1) := by decide +kernel
theorem dX8_weight_107 : decode cX8_weight 107 = .ok (.if_icmp .ne 12, 3) := by decide +kernel
theorem dX8_weight_110 : decode cX8_weight 110 = .ok (.sipush 1000, 3) := by decide +kernel
theorem dX8_weight_113 : decode cX8_weight 113 = .ok (.iload 5, 2) := by decide +kernel
theorem dX8_weight_115 : decode cX8_weight 115 = .ok (.isub, 1) := by decide +kernel
theorem dX8_weight_116 : decode cX8_weight 116 = .ok (.goto 4, 3) := by decide +kernel
theorem dX8_weight_119 : decode cX8_weight 119 = .ok (.iconst 0, 1) := by decide +kernel
theorem dX8_weight_120 : decode cX8_weight 120 = .ok (.ireturn, 1) := by decide +kernel
def f_X8_weight_63 (m : zz_Mem)  (v1 : Int32) (v3 : Int32) : Option Int32 :=
  if v1 = v3 then (
  some (1000 : Int32))
  else (
  some (0 : Int32))
theorem t_X8_weight_63 {l : Launch} {G : zz_G} (hN : 107 ≤ zz_N G) {m : zz_Mem}  : ∀ (v1 : Int32) (v3 : Int32), zz_Sim zz_sh l G mX8_weight 1 zz_vIr (zz_mC m) (f_X8_weight_63 m v1 v3) 63 [(1, .int v1), (3, .int v3)] [] m := by
  intro v1 v3
  unfold f_X8_weight_63
  refine zs_iload_n dX8_weight_63 rfl 0 rfl ?_
  refine zs_iload_n dX8_weight_64 rfl 1 rfl ?_
  refine zs_icmp_ne (tgt := 74) dX8_weight_65 (by decide) ?_ ?_
  · refine zs_iconst (v := (0 : Int32)) dX8_weight_74 ci_0 ?_
    exact zs_iret dX8_weight_75 rfl rfl rfl
  · refine zs_sipush (v := (1000 : Int32)) dX8_weight_68 cs_1000 ?_
    refine zs_goto (tgt := 75) dX8_weight_71 (by decide) ?_
    exact zs_iret dX8_weight_75 rfl rfl rfl
def f_X8_weight_35 (m : zz_Mem)  (v1 : Int32) (v2 : Int32) (v3 : Int32) (s0 : Int32) : Option Int32 :=
  if s0 ≤ 0 then (
  f_X8_weight_63 m v1 v3)
  else (
  if (m.1 2 1) = (1 : Int32) then (
  f_X8_weight_63 m v1 v3)
  else (
  zz_ix v3 9 <|
  if v2 = (m.1 79 v3.toNatClampNeg) then (
  f_X8_weight_63 m v1 v3)
  else (
  zz_ix v3 9 <|
  zz_nz s0 <|
  zz_letI (((v2 - (m.1 79 v3.toNatClampNeg)) * (1000 : Int32)) / s0) fun x1 =>
  if v1 = (v3 + (1 : Int32)) then (
  some x1)
  else (
  if v1 = v3 then (
  some ((1000 : Int32) - x1))
  else (
  some (0 : Int32))))))
theorem t_X8_weight_35 {l : Launch} {G : zz_G} (hN : 107 ≤ zz_N G) {m : zz_Mem}  : ∀ (v1 : Int32) (v2 : Int32) (v3 : Int32) (s0 : Int32), zz_Sim zz_sh l G mX8_weight 1 zz_vIr (zz_mC m) (f_X8_weight_35 m v1 v2 v3 s0) 35 [(0, .ref (zz_a G 72)), (1, .int v1), (2, .int v2), (3, .int v3)] [.int s0] m := by
  intro v1 v2 v3 s0
  unfold f_X8_weight_35
  refine zs_istore [(4, .int s0), (0, .ref (zz_a G 72)), (1, .int v1), (2, .int v2), (3, .int v3)] dX8_weight_35 (Nat.le_of_ble_eq_true rfl) rfl ?_
  refine zs_iload dX8_weight_37 0 rfl ?_
  refine zs_if_le (tgt := 63) dX8_weight_39 (by decide) ?_ ?_
  · refine zs_sub [2, 4] rfl ?_
    exact t_X8_weight_63 hN _ _
  · refine zs_aload_n dX8_weight_42 rfl 1 rfl ?_
    refine zs_getR fl_X8_36 dX8_weight_43 (sh_72 hN) rfl ?_
    refine zs_getI fl_X8_99 dX8_weight_46 (sh_2 hN) rfl ?_
    refine zs_iconst (v := (1 : Int32)) dX8_weight_49 ci_1 ?_
    refine zs_icmp_eq (tgt := 63) dX8_weight_50 (by decide) ?_ ?_
    · refine zs_sub [2, 4] rfl ?_
      exact t_X8_weight_63 hN _ _
    · refine zs_iload_n dX8_weight_53 rfl 3 rfl ?_
      refine zs_aload_n dX8_weight_54 rfl 1 rfl ?_
      refine zs_getR fl_X8_30 dX8_weight_55 (sh_72 hN) rfl ?_
      refine zs_iload_n dX8_weight_58 rfl 4 rfl ?_
      refine zs_ialdG dX8_weight_59 (sh_79 hN) ?_
      refine zs_icmp_ne (tgt := 76) dX8_weight_60 (by decide) ?_ ?_
      · refine zs_iload_n dX8_weight_76 rfl 3 rfl ?_
        refine zs_aload_n dX8_weight_77 rfl 1 rfl ?_
        refine zs_getR fl_X8_30 dX8_weight_78 (sh_72 hN) rfl ?_
        refine zs_iload_n dX8_weight_81 rfl 4 rfl ?_
        refine zs_ialdG dX8_weight_82 (sh_79 hN) ?_
        refine zs_isub dX8_weight_83 ?_
        refine zs_sipush (v := (1000 : Int32)) dX8_weight_84 cs_1000 ?_
        refine zs_imul dX8_weight_87 ?_
        refine zs_iload dX8_weight_88 0 rfl ?_
        refine zs_idivG dX8_weight_90 ?_
        refine zs_letI (fun x1 => ?_)
        refine zs_istore [(5, .int x1), (4, .int s0), (0, .ref (zz_a G 72)), (1, .int v1), (2, .int v2), (3, .int v3)] dX8_weight_91 (Nat.le_of_ble_eq_true rfl) rfl ?_
        refine zs_iload_n dX8_weight_93 rfl 3 rfl ?_
        refine zs_iload_n dX8_weight_94 rfl 5 rfl ?_
        refine zs_iconst (v := (1 : Int32)) dX8_weight_95 ci_1 ?_
        refine zs_iadd dX8_weight_96 ?_
        refine zs_icmp_ne (tgt := 105) dX8_weight_97 (by decide) ?_ ?_
        · refine zs_iload_n dX8_weight_105 rfl 3 rfl ?_
          refine zs_iload_n dX8_weight_106 rfl 5 rfl ?_
          refine zs_icmp_ne (tgt := 119) dX8_weight_107 (by decide) ?_ ?_
          · refine zs_iconst (v := (0 : Int32)) dX8_weight_119 ci_0 ?_
            exact zs_iret dX8_weight_120 rfl rfl rfl
          · refine zs_sipush (v := (1000 : Int32)) dX8_weight_110 cs_1000 ?_
            refine zs_iload dX8_weight_113 0 rfl ?_
            refine zs_isub dX8_weight_115 ?_
            refine zs_goto (tgt := 120) dX8_weight_116 (by decide) ?_
            exact zs_iret dX8_weight_120 rfl rfl rfl
        · refine zs_iload dX8_weight_100 0 rfl ?_
          refine zs_goto (tgt := 120) dX8_weight_102 (by decide) ?_
          exact zs_iret dX8_weight_120 rfl rfl rfl
      · refine zs_sub [2, 4] rfl ?_
        exact t_X8_weight_63 hN _ _
def f_X8_weight (m : zz_Mem) (p1 : Int32) (p2 : Int32) : Option Int32 :=
  zz_bndR (f_X8_pillarAt m p2) fun r1 =>
  if (m.1 72 8) ≤ (r1 + (1 : Int32)) then (
  f_X8_weight_35 m p1 p2 r1 (0 : Int32))
  else (
  zz_ix (r1 + (1 : Int32)) 9 <|
  zz_ix r1 9 <|
  f_X8_weight_35 m p1 p2 r1 ((m.1 79 (r1 + (1 : Int32)).toNatClampNeg) - (m.1 79 r1.toNatClampNeg)))
theorem k_X8_weight {l : Launch} {G : zz_G} (hN : 107 ≤ zz_N G) : ∀ (p1 : Int32) (p2 : Int32) (m : zz_Mem), zz_Con zz_sh l G mX8_weight 1 [.ref (zz_a G 72), .int p1, .int p2] zz_vIr (zz_mC m) (f_X8_weight m p1 p2) m := by
  intro p1 p2 m
  refine zz_con (lv := [(0, .ref (zz_a G 72)), (1, .int p1), (2, .int p2)]) (by decide +kernel) (Nat.le_of_ble_eq_true rfl) rfl ?_
  unfold f_X8_weight
  refine zs_aload_n dX8_weight_0 rfl 0 rfl ?_
  refine zs_iload_n dX8_weight_1 rfl 2 rfl ?_
  refine zs_cV_iR (rest := []) (k_X8_pillarAt hN _ _) dX8_weight_2 lv_X8_96 ok_X8_pillarAt (zz_rcv_o (sh_72 hN) rfl) (Nat.le_of_ble_eq_true rfl) rfl rfl (Nat.le_of_ble_eq_true rfl) (fun r1 => ?_)
  refine zs_istore_n [(3, .int r1), (0, .ref (zz_a G 72)), (1, .int p1), (2, .int p2)] dX8_weight_5 rfl (Nat.le_of_ble_eq_true rfl) rfl ?_
  refine zs_iload_n dX8_weight_6 rfl 0 rfl ?_
  refine zs_iconst (v := (1 : Int32)) dX8_weight_7 ci_1 ?_
  refine zs_iadd dX8_weight_8 ?_
  refine zs_aload_n dX8_weight_9 rfl 1 rfl ?_
  refine zs_getI fl_X8_90 dX8_weight_10 (sh_72 hN) rfl ?_
  refine zs_icmp_ge (tgt := 34) dX8_weight_13 (by decide) ?_ ?_
  · refine zs_iconst (v := (0 : Int32)) dX8_weight_34 ci_0 ?_
    refine zs_sub [1, 2, 3, 0] rfl ?_
    exact t_X8_weight_35 hN _ _ _ _
  · refine zs_aload_n dX8_weight_16 rfl 1 rfl ?_
    refine zs_getR fl_X8_30 dX8_weight_17 (sh_72 hN) rfl ?_
    refine zs_iload_n dX8_weight_20 rfl 0 rfl ?_
    refine zs_iconst (v := (1 : Int32)) dX8_weight_21 ci_1 ?_
    refine zs_iadd dX8_weight_22 ?_
    refine zs_ialdG dX8_weight_23 (sh_79 hN) ?_
    refine zs_aload_n dX8_weight_24 rfl 1 rfl ?_
    refine zs_getR fl_X8_30 dX8_weight_25 (sh_72 hN) rfl ?_
    refine zs_iload_n dX8_weight_28 rfl 0 rfl ?_
    refine zs_ialdG dX8_weight_29 (sh_79 hN) ?_
    refine zs_isub dX8_weight_30 ?_
    refine zs_goto (tgt := 35) dX8_weight_31 (by decide) ?_
    refine zs_sub [1, 2, 3, 0] rfl ?_
    exact t_X8_weight_35 hN _ _ _ _
