/-! ===== models and walks: 21.model2 ===== -/
/-! X12_off: PillarDeskModel.off(I)I -/
theorem dX12_off_0 : decode cX12_off 0 = .ok (.aload_n 0, 1) := by decide +kernel
theorem dX12_off_1 : decode cX12_off 1 = .ok (.iconst 0, 1) := by decide +kernel
theorem dX12_off_2 : decode cX12_off 2 = .ok (.putfield 1, 3) := by decide +kernel
theorem dX12_off_5 : decode cX12_off 5 = .ok (.iload_n 1, 1) := by decide +kernel
theorem dX12_off_6 : decode cX12_off 6 = .ok (.sipush 9999, 3) := by decide +kernel
theorem dX12_off_9 : decode cX12_off 9 = .ok (.invokestatic 254, 3) := by decide +kernel
theorem dX12_off_12 : decode cX12_off 12 = .ok (.ifCond .eq 11, 3) := by decide +kernel
theorem dX12_off_15 : decode cX12_off 15 = .ok (.aload_n 0, 1) := by decide +kernel
theorem dX12_off_16 : decode cX12_off 16 = .ok (.iload_n 1, 1) := by decide +kernel
theorem dX12_off_17 : decode cX12_off 17 = .ok (.invokevirtual 245, 3) := by decide +kernel
theorem dX12_off_20 : decode cX12_off 20 = .ok (.goto 5, 3) := by decide +kernel
theorem dX12_off_23 : decode cX12_off 23 = .ok (.bipush (-3), 2) := by decide +kernel
theorem dX12_off_25 : decode cX12_off 25 = .ok (.ireturn, 1) := by decide +kernel
def f_X12_off  (p1 : Int32) (m : zz_Mem) : Option (Int32 × zz_Mem) :=
  zz_letM (zz_setI m 0 0 (0 : Int32)) fun m1 =>
  zz_bndR (f_X12_isDay p1 (9999 : Int32)) fun r2 =>
  if r2 = 0 then (
  some ((-3 : Int32), m1))
  else (
  zz_bnd (f_X12_offOf p1 m1) fun r3 m4 =>
  some (r3, m4))
theorem k_X12_off {l : Launch} {G : zz_G} (hN : 26 ≤ zz_N G) : ∀ (p1 : Int32) (m : zz_Mem), zz_Con zz_shM l G mX12_off 4 [.ref (zz_a G 0), .int p1] zz_vI zz_m2 (f_X12_off p1 m) m := by
  intro p1 m
  refine zz_con (lv := [(0, .ref (zz_a G 0)), (1, .int p1)]) (by decide +kernel) (Nat.le_of_ble_eq_true rfl) rfl ?_
  unfold f_X12_off
  refine zs_aload_n dX12_off_0 rfl 0 rfl ?_
  refine zs_iconst (v := (0 : Int32)) dX12_off_1 ci_0 ?_
  refine zs_putI fl_X12_1 dX12_off_2 (shm_0 hN) rfl ⟨rfl, rfl⟩ (fun m1 => ?_)
  refine zs_iload_n dX12_off_5 rfl 1 rfl ?_
  refine zs_sipush (v := (9999 : Int32)) dX12_off_6 cs_9999 ?_
  refine zs_cS_iR (rest := []) (k_X12_isDay hN _ _ _) dX12_off_9 ls_X12_254 ok_X12_isDay (Nat.le_of_ble_eq_true rfl) rfl rfl (Nat.le_of_ble_eq_true rfl) (fun r2 => ?_)
  refine zs_if_eq (tgt := 23) dX12_off_12 (by decide) ?_ ?_
  · refine zs_bipush (v := (-3 : Int32)) dX12_off_23 cb_m3 ?_
    exact zs_iret dX12_off_25 rfl rfl rfl
  · refine zs_aload_n dX12_off_15 rfl 0 rfl ?_
    refine zs_iload_n dX12_off_16 rfl 1 rfl ?_
    refine zs_cV_iW (rest := []) (k_X12_offOf hN _ _) dX12_off_17 lv_X12_245 ok_X12_offOf (zz_rcv_o (shm_0 hN) rfl) (Nat.le_of_ble_eq_true rfl) rfl rfl (Nat.le_of_ble_eq_true rfl) (fun r3 m4 => ?_)
    refine zs_goto (tgt := 25) dX12_off_20 (by decide) ?_
    exact zs_iret dX12_off_25 rfl rfl rfl
/-! X12_opens: PillarDeskModel.opens(II)I -/
theorem dX12_opens_0 : decode cX12_opens 0 = .ok (.aload_n 0, 1) := by decide +kernel
theorem dX12_opens_1 : decode cX12_opens 1 = .ok (.iconst 0, 1) := by decide +kernel
theorem dX12_opens_2 : decode cX12_opens 2 = .ok (.putfield 1, 3) := by decide +kernel
theorem dX12_opens_5 : decode cX12_opens 5 = .ok (.iload_n 1, 1) := by decide +kernel
theorem dX12_opens_6 : decode cX12_opens 6 = .ok (.sipush 999, 3) := by decide +kernel
theorem dX12_opens_9 : decode cX12_opens 9 = .ok (.invokestatic 254, 3) := by decide +kernel
theorem dX12_opens_12 : decode cX12_opens 12 = .ok (.ifCond .eq 16, 3) := by decide +kernel
theorem dX12_opens_15 : decode cX12_opens 15 = .ok (.iload_n 2, 1) := by decide +kernel
theorem dX12_opens_16 : decode cX12_opens 16 = .ok (.i2l, 1) := by decide +kernel
theorem dX12_opens_17 : decode cX12_opens 17 = .ok (.iload_n 1, 1) := by decide +kernel
theorem dX12_opens_18 : decode cX12_opens 18 = .ok (.i2l, 1) := by decide +kernel
theorem dX12_opens_19 : decode cX12_opens 19 = .ok (.ldc2_w 258, 3) := by decide +kernel
theorem dX12_opens_22 : decode cX12_opens 22 = .ok (.invokestatic 163, 3) := by decide +kernel
theorem dX12_opens_25 : decode cX12_opens 25 = .ok (.ifCond .ne 6, 3) := by decide +kernel
theorem dX12_opens_28 : decode cX12_opens 28 = .ok (.bipush (-3), 2) := by decide +kernel
theorem dX12_opens_30 : decode cX12_opens 30 = .ok (.ireturn, 1) := by decide +kernel
theorem dX12_opens_31 : decode cX12_opens 31 = .ok (.iconst 0, 1) := by decide +kernel
theorem dX12_opens_32 : decode cX12_opens 32 = .ok (.istore_n 3, 1) := by decide +kernel
theorem dX12_opens_33 : decode cX12_opens 33 = .ok (.iload_n 1, 1) := by decide +kernel
theorem dX12_opens_34 : decode cX12_opens 34 = .ok (.istore 4, 2) := by decide +kernel
theorem dX12_opens_36 : decode cX12_opens 36 = .ok (.iload 4, 2) := by decide +kernel
theorem dX12_opens_38 : decode cX12_opens 38 = .ok (.iload_n 2, 1) := by decide +kernel
theorem dX12_opens_39 : decode cX12_opens 39 = .ok (.if_icmp .ge 26, 3) := by decide +kernel
theorem dX12_opens_42 : decode cX12_opens 42 = .ok (.iload_n 3, 1) := by decide +kernel
theorem dX12_opens_43 : decode cX12_opens 43 = .ok (.aload_n 0, 1) := by decide +kernel
theorem dX12_opens_44 : decode cX12_opens 44 = .ok (.iload 4, 2) := by decide +kernel
theorem dX12_opens_46 : decode cX12_opens 46 = .ok (.invokevirtual 242, 3) := by decide +kernel
theorem dX12_opens_49 : decode cX12_opens 49 = .ok (.ifCond .eq 7, 3) := by decide +kernel
theorem dX12_opens_52 : decode cX12_opens 52 = .ok (.iconst 1, 1) := by decide +kernel
theorem dX12_opens_53 : decode cX12_opens 53 = .ok (.goto 4, 3) := by decide +kernel
theorem dX12_opens_56 : decode cX12_opens 56 = .ok (.iconst 0, 1) := by decide +kernel
theorem dX12_opens_57 : decode cX12_opens 57 = .ok (.iadd, 1) := by decide +kernel
theorem dX12_opens_58 : decode cX12_opens 58 = .ok (.istore_n 3, 1) := by decide +kernel
theorem dX12_opens_59 : decode cX12_opens 59 = .ok (.iinc 4 1, 3) := by decide +kernel
theorem dX12_opens_62 : decode cX12_opens 62 = .ok (.goto (-26), 3) := by decide +kernel
theorem dX12_opens_65 : decode cX12_opens 65 = .ok (.iload_n 3, 1) := by decide +kernel
theorem dX12_opens_66 : decode cX12_opens 66 = .ok (.ireturn, 1) := by decide +kernel
def f_X12_opens_57  (k36 : Int32 → Int32 → Int32 → zz_Mem → Option (Int32 × zz_Mem)) (v2 : Int32) (v4 : Int32) (s0 : Int32) (s1 : Int32) (m : zz_Mem) : Option (Int32 × zz_Mem) :=
  zz_letI (s1 + s0) fun x1 =>
  zz_letI (v4 + (1 : Int32)) fun x2 =>
  k36 v2 x1 x2 m
theorem t_X12_opens_57 {l : Launch} {G : zz_G} (hN : 26 ≤ zz_N G) {k36 : Int32 → Int32 → Int32 → zz_Mem → Option (Int32 × zz_Mem)} (hk36 : ∀ (v2 : Int32) (v3 : Int32) (v4 : Int32) (m : zz_Mem), zz_Sim zz_shM l G mX12_opens 3 zz_vI zz_m2 (k36 v2 v3 v4 m) 36 [(0, .ref (zz_a G 0)), (2, .int v2), (3, .int v3), (4, .int v4)] [] m) : ∀ (v2 : Int32) (v4 : Int32) (s0 : Int32) (s1 : Int32) (m : zz_Mem), zz_Sim zz_shM l G mX12_opens 3 zz_vI zz_m2 (f_X12_opens_57 k36 v2 v4 s0 s1 m) 57 [(0, .ref (zz_a G 0)), (2, .int v2), (4, .int v4)] [.int s0, .int s1] m := by
  intro v2 v4 s0 s1 m
  unfold f_X12_opens_57
  refine zs_iadd dX12_opens_57 ?_
  refine zs_letI (fun x1 => ?_)
  refine zs_istore_n [(3, .int x1), (0, .ref (zz_a G 0)), (2, .int v2), (4, .int v4)] dX12_opens_58 rfl (Nat.le_of_ble_eq_true rfl) rfl ?_
  refine zs_iinc (fun y => [(4, .int y), (3, .int x1), (0, .ref (zz_a G 0)), (2, .int v2)]) dX12_opens_59 3 rfl ci_1 (Nat.le_of_ble_eq_true rfl) (fun _ => rfl) (fun x2 => ?_)
  refine zs_goto (tgt := 36) dX12_opens_62 (by decide) ?_
  refine zs_sub [2, 3, 1, 0] rfl ?_
  exact hk36 _ _ _ _
def f_X12_opens_36   : Nat → Int32 → Int32 → Int32 → zz_Mem → Option (Int32 × zz_Mem)
  | 0, _, _, _, _ => none
  | n + 1, v2, v3, v4, m =>
  if v2 ≤ v4 then (
  some (v3, m))
  else (
  zz_bnd (f_X12_isOpen v4 m) fun r1 m2 =>
  if r1 = 0 then (
  f_X12_opens_57 (f_X12_opens_36 n) v2 v4 (0 : Int32) v3 m2)
  else (
  f_X12_opens_57 (f_X12_opens_36 n) v2 v4 (1 : Int32) v3 m2))
theorem t_X12_opens_36 {l : Launch} {G : zz_G} (hN : 26 ≤ zz_N G)  : ∀ (n : Nat) (v2 : Int32) (v3 : Int32) (v4 : Int32) (m : zz_Mem), zz_Sim zz_shM l G mX12_opens 3 zz_vI zz_m2 (f_X12_opens_36 n v2 v3 v4 m) 36 [(0, .ref (zz_a G 0)), (2, .int v2), (3, .int v3), (4, .int v4)] [] m := by
  intro n
  induction n with
  | zero => intro _ _ _ _; exact zs_none
  | succ n ih =>
    intro v2 v3 v4 m
    rw [f_X12_opens_36]
    refine zs_iload dX12_opens_36 3 rfl ?_
    refine zs_iload_n dX12_opens_38 rfl 1 rfl ?_
    refine zs_icmp_ge (tgt := 65) dX12_opens_39 (by decide) ?_ ?_
    · refine zs_iload_n dX12_opens_65 rfl 2 rfl ?_
      exact zs_iret dX12_opens_66 rfl rfl rfl
    · refine zs_iload_n dX12_opens_42 rfl 2 rfl ?_
      refine zs_aload_n dX12_opens_43 rfl 0 rfl ?_
      refine zs_iload dX12_opens_44 3 rfl ?_
      refine zs_cV_iW (rest := [.int v3]) (k_X12_isOpen hN _ _) dX12_opens_46 lv_X12_242 ok_X12_isOpen (zz_rcv_o (shm_0 hN) rfl) (Nat.le_of_ble_eq_true rfl) rfl rfl (Nat.le_of_ble_eq_true rfl) (fun r1 m2 => ?_)
      refine zs_if_eq (tgt := 56) dX12_opens_49 (by decide) ?_ ?_
      · refine zs_iconst (v := (0 : Int32)) dX12_opens_56 ci_0 ?_
        refine zs_sub [0, 1, 3] rfl ?_
        exact t_X12_opens_57 hN ih _ _ _ _ _
      · refine zs_iconst (v := (1 : Int32)) dX12_opens_52 ci_1 ?_
        refine zs_goto (tgt := 57) dX12_opens_53 (by decide) ?_
        refine zs_sub [0, 1, 3] rfl ?_
        exact t_X12_opens_57 hN ih _ _ _ _ _
def f_X12_opens  (p1 : Int32) (p2 : Int32) (m : zz_Mem) : Option (Int32 × zz_Mem) :=
  zz_letM (zz_setI m 0 0 (0 : Int32)) fun m1 =>
  zz_bndR (f_X12_isDay p1 (999 : Int32)) fun r2 =>
  if r2 = 0 then (
  some ((-3 : Int32), m1))
  else (
  zz_bndR (f_X12_within p2.toInt64 p1.toInt64 (999 : Int64)) fun r3 =>
  if r3 = 0 then (
  some ((-3 : Int32), m1))
  else (
  f_X12_opens_36 zz_fuel p2 (0 : Int32) p1 m1))
theorem k_X12_opens {l : Launch} {G : zz_G} (hN : 26 ≤ zz_N G) : ∀ (p1 : Int32) (p2 : Int32) (m : zz_Mem), zz_Con zz_shM l G mX12_opens 3 [.ref (zz_a G 0), .int p1, .int p2] zz_vI zz_m2 (f_X12_opens p1 p2 m) m := by
  intro p1 p2 m
  refine zz_con (lv := [(0, .ref (zz_a G 0)), (1, .int p1), (2, .int p2)]) (by decide +kernel) (Nat.le_of_ble_eq_true rfl) rfl ?_
  unfold f_X12_opens
  refine zs_aload_n dX12_opens_0 rfl 0 rfl ?_
  refine zs_iconst (v := (0 : Int32)) dX12_opens_1 ci_0 ?_
  refine zs_putI fl_X12_1 dX12_opens_2 (shm_0 hN) rfl ⟨rfl, rfl⟩ (fun m1 => ?_)
  refine zs_iload_n dX12_opens_5 rfl 1 rfl ?_
  refine zs_sipush (v := (999 : Int32)) dX12_opens_6 cs_999 ?_
  refine zs_cS_iR (rest := []) (k_X12_isDay hN _ _ _) dX12_opens_9 ls_X12_254 ok_X12_isDay (Nat.le_of_ble_eq_true rfl) rfl rfl (Nat.le_of_ble_eq_true rfl) (fun r2 => ?_)
  refine zs_if_eq (tgt := 28) dX12_opens_12 (by decide) ?_ ?_
  · refine zs_bipush (v := (-3 : Int32)) dX12_opens_28 cb_m3 ?_
    exact zs_iret dX12_opens_30 rfl rfl rfl
  · refine zs_iload_n dX12_opens_15 rfl 2 rfl ?_
    refine zs_i2l dX12_opens_16 ?_
    refine zs_iload_n dX12_opens_17 rfl 1 rfl ?_
    refine zs_i2l dX12_opens_18 ?_
    refine zs_ldc2 (v := (999 : Int64)) dX12_opens_19 kc_X12_258 ?_
    refine zs_cS_iR (rest := []) (k_X12_within hN _ _ _ _) dX12_opens_22 ls_X12_163 ok_X12_within (Nat.le_of_ble_eq_true rfl) rfl rfl (Nat.le_of_ble_eq_true rfl) (fun r3 => ?_)
    refine zs_if_ne (tgt := 31) dX12_opens_25 (by decide) ?_ ?_
    · refine zs_iconst (v := (0 : Int32)) dX12_opens_31 ci_0 ?_
      refine zs_istore_n [(3, .int (0 : Int32)), (0, .ref (zz_a G 0)), (1, .int p1), (2, .int p2)] dX12_opens_32 rfl (Nat.le_of_ble_eq_true rfl) rfl ?_
      refine zs_iload_n dX12_opens_33 rfl 2 rfl ?_
      refine zs_istore [(4, .int p1), (3, .int (0 : Int32)), (0, .ref (zz_a G 0)), (1, .int p1), (2, .int p2)] dX12_opens_34 (Nat.le_of_ble_eq_true rfl) rfl ?_
      refine zs_sub [2, 4, 1, 0] rfl ?_
      exact t_X12_opens_36 hN zz_fuel _ _ _ _
    · refine zs_bipush (v := (-3 : Int32)) dX12_opens_28 cb_m3 ?_
      exact zs_iret dX12_opens_30 rfl rfl rfl
/-! X12_business: PillarDeskModel.business(II)I -/
theorem dX12_business_0 : decode cX12_business 0 = .ok (.aload_n 0, 1) := by decide +kernel
theorem dX12_business_1 : decode cX12_business 1 = .ok (.iconst 0, 1) := by decide +kernel
theorem dX12_business_2 : decode cX12_business 2 = .ok (.putfield 1, 3) := by decide +kernel
theorem dX12_business_5 : decode cX12_business 5 = .ok (.iload_n 1, 1) := by decide +kernel
theorem dX12_business_6 : decode cX12_business 6 = .ok (.sipush 999, 3) := by decide +kernel
theorem dX12_business_9 : decode cX12_business 9 = .ok (.invokestatic 254, 3) := by decide +kernel
theorem dX12_business_12 : decode cX12_business 12 = .ok (.ifCond .eq 15, 3) := by decide +kernel
theorem dX12_business_15 : decode cX12_business 15 = .ok (.iload_n 2, 1) := by decide +kernel
theorem dX12_business_16 : decode cX12_business 16 = .ok (.i2l, 1) := by decide +kernel
theorem dX12_business_17 : decode cX12_business 17 = .ok (.lconst 1, 1) := by decide +kernel
theorem dX12_business_18 : decode cX12_business 18 = .ok (.ldc2_w 260, 3) := by decide +kernel
theorem dX12_business_21 : decode cX12_business 21 = .ok (.invokestatic 163, 3) := by decide +kernel
theorem dX12_business_24 : decode cX12_business 24 = .ok (.ifCond .ne 6, 3) := by decide +kernel
theorem dX12_business_27 : decode cX12_business 27 = .ok (.bipush (-3), 2) := by decide +kernel
theorem dX12_business_29 : decode cX12_business 29 = .ok (.ireturn, 1) := by decide +kernel
theorem dX12_business_30 : decode cX12_business 30 = .ok (.iload_n 2, 1) := by decide +kernel
theorem dX12_business_31 : decode cX12_business 31 = .ok (.istore_n 3, 1) := by decide +kernel
theorem dX12_business_32 : decode cX12_business 32 = .ok (.iconst 1, 1) := by decide +kernel
theorem dX12_business_33 : decode cX12_business 33 = .ok (.istore 4, 2) := by decide +kernel
theorem dX12_business_35 : decode cX12_business 35 = .ok (.iload 4, 2) := by decide +kernel
theorem dX12_business_37 : decode cX12_business 37 = .ok (.sipush 999, 3) := by decide +kernel
theorem dX12_business_40 : decode cX12_business 40 = .ok (.if_icmp .gt 37, 3) := by decide +kernel
theorem dX12_business_43 : decode cX12_business 43 = .ok (.iload_n 3, 1) := by decide +kernel
theorem dX12_business_44 : decode cX12_business 44 = .ok (.aload_n 0, 1) := by decide +kernel
theorem dX12_business_45 : decode cX12_business 45 = .ok (.iload_n 1, 1) := by decide +kernel
theorem dX12_business_46 : decode cX12_business 46 = .ok (.iload 4, 2) := by decide +kernel
theorem dX12_business_48 : decode cX12_business 48 = .ok (.iadd, 1) := by decide +kernel
theorem dX12_business_49 : decode cX12_business 49 = .ok (.invokevirtual 242, 3) := by decide +kernel
theorem dX12_business_52 : decode cX12_business 52 = .ok (.ifCond .eq 7, 3) := by decide +kernel
theorem dX12_business_55 : decode cX12_business 55 = .ok (.iconst 1, 1) := by decide +kernel
theorem dX12_business_56 : decode cX12_business 56 = .ok (.goto 4, 3) := by decide +kernel
theorem dX12_business_59 : decode cX12_business 59 = .ok (.iconst 0, 1) := by decide +kernel
theorem dX12_business_60 : decode cX12_business 60 = .ok (.isub, 1) := by decide +kernel
theorem dX12_business_61 : decode cX12_business 61 = .ok (.istore_n 3, 1) := by decide +kernel
theorem dX12_business_62 : decode cX12_business 62 = .ok (.iload_n 3, 1) := by decide +kernel
theorem dX12_business_63 : decode cX12_business 63 = .ok (.ifCond .ne 8, 3) := by decide +kernel
theorem dX12_business_66 : decode cX12_business 66 = .ok (.iload_n 1, 1) := by decide +kernel
theorem dX12_business_67 : decode cX12_business 67 = .ok (.iload 4, 2) := by decide +kernel
theorem dX12_business_69 : decode cX12_business 69 = .ok (.iadd, 1) := by decide +kernel
theorem dX12_business_70 : decode cX12_business 70 = .ok (.ireturn, 1) := by decide +kernel
theorem dX12_business_71 : decode cX12_business 71 = .ok (.iinc 4 1, 3) := by decide +kernel
theorem dX12_business_74 : decode cX12_business 74 = .ok (.goto (-39), 3) := by decide +kernel
theorem dX12_business_77 : decode cX12_business 77 = .ok (.iconst (-1), 1) := by decide +kernel
theorem dX12_business_78 : decode cX12_business 78 = .ok (.ireturn, 1) := by decide +kernel
def f_X12_business_60  (k35 : Int32 → Int32 → Int32 → zz_Mem → Option (Int32 × zz_Mem)) (v1 : Int32) (v4 : Int32) (s0 : Int32) (s1 : Int32) (m : zz_Mem) : Option (Int32 × zz_Mem) :=
  zz_letI (s1 - s0) fun x1 =>
  if x1 = 0 then (
  some (v1 + v4, m))
  else (
  zz_letI (v4 + (1 : Int32)) fun x2 =>
  k35 v1 x1 x2 m)
theorem t_X12_business_60 {l : Launch} {G : zz_G} (hN : 26 ≤ zz_N G) {k35 : Int32 → Int32 → Int32 → zz_Mem → Option (Int32 × zz_Mem)} (hk35 : ∀ (v1 : Int32) (v3 : Int32) (v4 : Int32) (m : zz_Mem), zz_Sim zz_shM l G mX12_business 3 zz_vI zz_m2 (k35 v1 v3 v4 m) 35 [(0, .ref (zz_a G 0)), (1, .int v1), (3, .int v3), (4, .int v4)] [] m) : ∀ (v1 : Int32) (v4 : Int32) (s0 : Int32) (s1 : Int32) (m : zz_Mem), zz_Sim zz_shM l G mX12_business 3 zz_vI zz_m2 (f_X12_business_60 k35 v1 v4 s0 s1 m) 60 [(0, .ref (zz_a G 0)), (1, .int v1), (4, .int v4)] [.int s0, .int s1] m := by
  intro v1 v4 s0 s1 m
  unfold f_X12_business_60
  refine zs_isub dX12_business_60 ?_
  refine zs_letI (fun x1 => ?_)
  refine zs_istore_n [(3, .int x1), (0, .ref (zz_a G 0)), (1, .int v1), (4, .int v4)] dX12_business_61 rfl (Nat.le_of_ble_eq_true rfl) rfl ?_
  refine zs_iload_n dX12_business_62 rfl 0 rfl ?_
  refine zs_if_ne (tgt := 71) dX12_business_63 (by decide) ?_ ?_
  · refine zs_iinc (fun y => [(4, .int y), (3, .int x1), (0, .ref (zz_a G 0)), (1, .int v1)]) dX12_business_71 3 rfl ci_1 (Nat.le_of_ble_eq_true rfl) (fun _ => rfl) (fun x2 => ?_)
    refine zs_goto (tgt := 35) dX12_business_74 (by decide) ?_
    refine zs_sub [2, 3, 1, 0] rfl ?_
    exact hk35 _ _ _ _
  · refine zs_iload_n dX12_business_66 rfl 2 rfl ?_
    refine zs_iload dX12_business_67 3 rfl ?_
    refine zs_iadd dX12_business_69 ?_
    exact zs_iret dX12_business_70 rfl rfl rfl
def f_X12_business_35   : Nat → Int32 → Int32 → Int32 → zz_Mem → Option (Int32 × zz_Mem)
  | 0, _, _, _, _ => none
  | n + 1, v1, v3, v4, m =>
  if (999 : Int32) < v4 then (
  some ((-1 : Int32), m))
  else (
  zz_bnd (f_X12_isOpen (v1 + v4) m) fun r1 m2 =>
  if r1 = 0 then (
  f_X12_business_60 (f_X12_business_35 n) v1 v4 (0 : Int32) v3 m2)
  else (
  f_X12_business_60 (f_X12_business_35 n) v1 v4 (1 : Int32) v3 m2))
theorem t_X12_business_35 {l : Launch} {G : zz_G} (hN : 26 ≤ zz_N G)  : ∀ (n : Nat) (v1 : Int32) (v3 : Int32) (v4 : Int32) (m : zz_Mem), zz_Sim zz_shM l G mX12_business 3 zz_vI zz_m2 (f_X12_business_35 n v1 v3 v4 m) 35 [(0, .ref (zz_a G 0)), (1, .int v1), (3, .int v3), (4, .int v4)] [] m := by
  intro n
  induction n with
  | zero => intro _ _ _ _; exact zs_none
  | succ n ih =>
    intro v1 v3 v4 m
    rw [f_X12_business_35]
    refine zs_iload dX12_business_35 3 rfl ?_
    refine zs_sipush (v := (999 : Int32)) dX12_business_37 cs_999 ?_
    refine zs_icmp_gt (tgt := 77) dX12_business_40 (by decide) ?_ ?_
    · refine zs_iconst (v := (-1 : Int32)) dX12_business_77 ci_m1 ?_
      exact zs_iret dX12_business_78 rfl rfl rfl
    · refine zs_iload_n dX12_business_43 rfl 2 rfl ?_
      refine zs_aload_n dX12_business_44 rfl 0 rfl ?_
      refine zs_iload_n dX12_business_45 rfl 1 rfl ?_
      refine zs_iload dX12_business_46 3 rfl ?_
      refine zs_iadd dX12_business_48 ?_
      refine zs_cV_iW (rest := [.int v3]) (k_X12_isOpen hN _ _) dX12_business_49 lv_X12_242 ok_X12_isOpen (zz_rcv_o (shm_0 hN) rfl) (Nat.le_of_ble_eq_true rfl) rfl rfl (Nat.le_of_ble_eq_true rfl) (fun r1 m2 => ?_)
      refine zs_if_eq (tgt := 59) dX12_business_52 (by decide) ?_ ?_
      · refine zs_iconst (v := (0 : Int32)) dX12_business_59 ci_0 ?_
        refine zs_sub [0, 1, 3] rfl ?_
        exact t_X12_business_60 hN ih _ _ _ _ _
      · refine zs_iconst (v := (1 : Int32)) dX12_business_55 ci_1 ?_
        refine zs_goto (tgt := 60) dX12_business_56 (by decide) ?_
        refine zs_sub [0, 1, 3] rfl ?_
        exact t_X12_business_60 hN ih _ _ _ _ _
def f_X12_business  (p1 : Int32) (p2 : Int32) (m : zz_Mem) : Option (Int32 × zz_Mem) :=
  zz_letM (zz_setI m 0 0 (0 : Int32)) fun m1 =>
  zz_bndR (f_X12_isDay p1 (999 : Int32)) fun r2 =>
  if r2 = 0 then (
  some ((-3 : Int32), m1))
  else (
  zz_bndR (f_X12_within p2.toInt64 (1 : Int64) (99 : Int64)) fun r3 =>
  if r3 = 0 then (
  some ((-3 : Int32), m1))
  else (
  f_X12_business_35 zz_fuel p1 p2 (1 : Int32) m1))
theorem k_X12_business {l : Launch} {G : zz_G} (hN : 26 ≤ zz_N G) : ∀ (p1 : Int32) (p2 : Int32) (m : zz_Mem), zz_Con zz_shM l G mX12_business 3 [.ref (zz_a G 0), .int p1, .int p2] zz_vI zz_m2 (f_X12_business p1 p2 m) m := by
  intro p1 p2 m
  refine zz_con (lv := [(0, .ref (zz_a G 0)), (1, .int p1), (2, .int p2)]) (by decide +kernel) (Nat.le_of_ble_eq_true rfl) rfl ?_
  unfold f_X12_business
  refine zs_aload_n dX12_business_0 rfl 0 rfl ?_
  refine zs_iconst (v := (0 : Int32)) dX12_business_1 ci_0 ?_
  refine zs_putI fl_X12_1 dX12_business_2 (shm_0 hN) rfl ⟨rfl, rfl⟩ (fun m1 => ?_)
  refine zs_iload_n dX12_business_5 rfl 1 rfl ?_
  refine zs_sipush (v := (999 : Int32)) dX12_business_6 cs_999 ?_
  refine zs_cS_iR (rest := []) (k_X12_isDay hN _ _ _) dX12_business_9 ls_X12_254 ok_X12_isDay (Nat.le_of_ble_eq_true rfl) rfl rfl (Nat.le_of_ble_eq_true rfl) (fun r2 => ?_)
  refine zs_if_eq (tgt := 27) dX12_business_12 (by decide) ?_ ?_
  · refine zs_bipush (v := (-3 : Int32)) dX12_business_27 cb_m3 ?_
    exact zs_iret dX12_business_29 rfl rfl rfl
  · refine zs_iload_n dX12_business_15 rfl 2 rfl ?_
    refine zs_i2l dX12_business_16 ?_
    refine zs_lconst (v := (1 : Int64)) dX12_business_17 rfl ?_
    refine zs_ldc2 (v := (99 : Int64)) dX12_business_18 kc_X12_260 ?_
    refine zs_cS_iR (rest := []) (k_X12_within hN _ _ _ _) dX12_business_21 ls_X12_163 ok_X12_within (Nat.le_of_ble_eq_true rfl) rfl rfl (Nat.le_of_ble_eq_true rfl) (fun r3 => ?_)
    refine zs_if_ne (tgt := 30) dX12_business_24 (by decide) ?_ ?_
    · refine zs_iload_n dX12_business_30 rfl 2 rfl ?_
      refine zs_istore_n [(3, .int p2), (0, .ref (zz_a G 0)), (1, .int p1), (2, .int p2)] dX12_business_31 rfl (Nat.le_of_ble_eq_true rfl) rfl ?_
      refine zs_iconst (v := (1 : Int32)) dX12_business_32 ci_1 ?_
      refine zs_istore [(4, .int (1 : Int32)), (3, .int p2), (0, .ref (zz_a G 0)), (1, .int p1), (2, .int p2)] dX12_business_33 (Nat.le_of_ble_eq_true rfl) rfl ?_
      refine zs_sub [2, 3, 1, 0] rfl ?_
      exact t_X12_business_35 hN zz_fuel _ _ _ _
    · refine zs_bipush (v := (-3 : Int32)) dX12_business_27 cb_m3 ?_
      exact zs_iret dX12_business_29 rfl rfl rfl
/-! X12_period: PillarDeskModel.period(II)I -/
theorem dX12_period_0 : decode cX12_period 0 = .ok (.aload_n 0, 1) := by decide +kernel
theorem dX12_period_1 : decode cX12_period 1 = .ok (.iconst 0, 1) := by decide +kernel
theorem dX12_period_2 : decode cX12_period 2 = .ok (.putfield 1, 3) := by decide +kernel
theorem dX12_period_5 : decode cX12_period 5 = .ok (.aload_n 0, 1) := by decide +kernel
theorem dX12_period_6 : decode cX12_period 6 = .ok (.iload_n 1, 1) := by decide +kernel
theorem dX12_period_7 : decode cX12_period 7 = .ok (.i2l, 1) := by decide +kernel
theorem dX12_period_8 : decode cX12_period 8 = .ok (.invokevirtual 262, 3) := by decide +kernel
theorem dX12_period_11 : decode cX12_period 11 = .ok (.ifCond .eq 16, 3) := by decide +kernel
theorem dX12_period_14 : decode cX12_period 14 = .ok (.aload_n 0, 1) := by decide +kernel
theorem dX12_period_15 : decode cX12_period 15 = .ok (.getfield 13, 3) := by decide +kernel
theorem dX12_period_18 : decode cX12_period 18 = .ok (.bipush 24, 2) := by decide +kernel
theorem dX12_period_20 : decode cX12_period 20 = .ok (.iload_n 1, 1) := by decide +kernel
theorem dX12_period_21 : decode cX12_period 21 = .ok (.iadd, 1) := by decide +kernel
theorem dX12_period_22 : decode cX12_period 22 = .ok (.iaload, 1) := by decide +kernel
theorem dX12_period_23 : decode cX12_period 23 = .ok (.iconst 2, 1) := by decide +kernel
theorem dX12_period_24 : decode cX12_period 24 = .ok (.if_icmp .eq 6, 3) := by decide +kernel
theorem dX12_period_27 : decode cX12_period 27 = .ok (.bipush (-2), 2) := by decide +kernel
theorem dX12_period_29 : decode cX12_period 29 = .ok (.ireturn, 1) := by decide +kernel
theorem dX12_period_30 : decode cX12_period 30 = .ok (.iload_n 2, 1) := by decide +kernel
theorem dX12_period_31 : decode cX12_period 31 = .ok (.ifCond .ge 6, 3) := by decide +kernel
theorem dX12_period_34 : decode cX12_period 34 = .ok (.bipush (-3), 2) := by decide +kernel
theorem dX12_period_36 : decode cX12_period 36 = .ok (.ireturn, 1) := by decide +kernel
theorem dX12_period_37 : decode cX12_period 37 = .ok (.iload_n 2, 1) := by decide +kernel
theorem dX12_period_38 : decode cX12_period 38 = .ok (.aload_n 0, 1) := by decide +kernel
theorem dX12_period_39 : decode cX12_period 39 = .ok (.getfield 45, 3) := by decide +kernel
theorem dX12_period_42 : decode cX12_period 42 = .ok (.iload_n 1, 1) := by decide +kernel
theorem dX12_period_43 : decode cX12_period 43 = .ok (.iaload, 1) := by decide +kernel
theorem dX12_period_44 : decode cX12_period 44 = .ok (.if_icmp .ge 12, 3) := by decide +kernel
theorem dX12_period_47 : decode cX12_period 47 = .ok (.aload_n 0, 1) := by decide +kernel
theorem dX12_period_48 : decode cX12_period 48 = .ok (.iload_n 1, 1) := by decide +kernel
theorem dX12_period_49 : decode cX12_period 49 = .ok (.iload_n 2, 1) := by decide +kernel
theorem dX12_period_50 : decode cX12_period 50 = .ok (.invokevirtual 251, 3) := by decide +kernel
theorem dX12_period_53 : decode cX12_period 53 = .ok (.goto 4, 3) := by decide +kernel
theorem dX12_period_56 : decode cX12_period 56 = .ok (.iconst (-1), 1) := by decide +kernel
theorem dX12_period_57 : decode cX12_period 57 = .ok (.ireturn, 1) := by decide +kernel
def f_X12_period  (p1 : Int32) (p2 : Int32) (m : zz_Mem) : Option (Int32 × zz_Mem) :=
  zz_letM (zz_setI m 0 0 (0 : Int32)) fun m1 =>
  zz_bndR (f_X12_isInput m1 p1.toInt64) fun r2 =>
  if r2 = 0 then (
  some ((-2 : Int32), m1))
  else (
  zz_ix ((24 : Int32) + p1) 3531 <|
  if (m1.1 1 ((24 : Int32) + p1).toNatClampNeg) = (2 : Int32) then (
  if 0 ≤ p2 then (
  zz_ix p1 8 <|
  if (m1.1 10 p1.toNatClampNeg) ≤ p2 then (
  some ((-1 : Int32), m1))
  else (
  zz_bndR (f_X12_endOf m1 p1 p2) fun r3 =>
  some (r3, m1)))
  else (
  some ((-3 : Int32), m1)))
  else (
  some ((-2 : Int32), m1)))
theorem k_X12_period {l : Launch} {G : zz_G} (hN : 26 ≤ zz_N G) : ∀ (p1 : Int32) (p2 : Int32) (m : zz_Mem), zz_Con zz_shM l G mX12_period 2 [.ref (zz_a G 0), .int p1, .int p2] zz_vI zz_m2 (f_X12_period p1 p2 m) m := by
  intro p1 p2 m
  refine zz_con (lv := [(0, .ref (zz_a G 0)), (1, .int p1), (2, .int p2)]) (by decide +kernel) (Nat.le_of_ble_eq_true rfl) rfl ?_
  unfold f_X12_period
  refine zs_aload_n dX12_period_0 rfl 0 rfl ?_
  refine zs_iconst (v := (0 : Int32)) dX12_period_1 ci_0 ?_
  refine zs_putI fl_X12_1 dX12_period_2 (shm_0 hN) rfl ⟨rfl, rfl⟩ (fun m1 => ?_)
  refine zs_aload_n dX12_period_5 rfl 0 rfl ?_
  refine zs_iload_n dX12_period_6 rfl 1 rfl ?_
  refine zs_i2l dX12_period_7 ?_
  refine zs_cV_iR (rest := []) (k_X12_isInput hN _ _) dX12_period_8 lv_X12_262 ok_X12_isInput (zz_rcv_o (shm_0 hN) rfl) (Nat.le_of_ble_eq_true rfl) rfl rfl (Nat.le_of_ble_eq_true rfl) (fun r2 => ?_)
  refine zs_if_eq (tgt := 27) dX12_period_11 (by decide) ?_ ?_
  · refine zs_bipush (v := (-2 : Int32)) dX12_period_27 cb_m2 ?_
    exact zs_iret dX12_period_29 rfl rfl rfl
  · refine zs_aload_n dX12_period_14 rfl 0 rfl ?_
    refine zs_getR fl_X12_13 dX12_period_15 (shm_0 hN) rfl ?_
    refine zs_bipush (v := (24 : Int32)) dX12_period_18 cb_24 ?_
    refine zs_iload_n dX12_period_20 rfl 1 rfl ?_
    refine zs_iadd dX12_period_21 ?_
    refine zs_ialdG dX12_period_22 (shm_1 hN) ?_
    refine zs_iconst (v := (2 : Int32)) dX12_period_23 ci_2 ?_
    refine zs_icmp_eq (tgt := 30) dX12_period_24 (by decide) ?_ ?_
    · refine zs_iload_n dX12_period_30 rfl 2 rfl ?_
      refine zs_if_ge (tgt := 37) dX12_period_31 (by decide) ?_ ?_
      · refine zs_iload_n dX12_period_37 rfl 2 rfl ?_
        refine zs_aload_n dX12_period_38 rfl 0 rfl ?_
        refine zs_getR fl_X12_45 dX12_period_39 (shm_0 hN) rfl ?_
        refine zs_iload_n dX12_period_42 rfl 1 rfl ?_
        refine zs_ialdG dX12_period_43 (shm_10 hN) ?_
        refine zs_icmp_ge (tgt := 56) dX12_period_44 (by decide) ?_ ?_
        · refine zs_iconst (v := (-1 : Int32)) dX12_period_56 ci_m1 ?_
          exact zs_iret dX12_period_57 rfl rfl rfl
        · refine zs_aload_n dX12_period_47 rfl 0 rfl ?_
          refine zs_iload_n dX12_period_48 rfl 1 rfl ?_
          refine zs_iload_n dX12_period_49 rfl 2 rfl ?_
          refine zs_cV_iR (rest := []) (k_X12_endOf hN _ _ _) dX12_period_50 lv_X12_251 ok_X12_endOf (zz_rcv_o (shm_0 hN) rfl) (Nat.le_of_ble_eq_true rfl) rfl rfl (Nat.le_of_ble_eq_true rfl) (fun r3 => ?_)
          refine zs_goto (tgt := 57) dX12_period_53 (by decide) ?_
          exact zs_iret dX12_period_57 rfl rfl rfl
      · refine zs_bipush (v := (-3 : Int32)) dX12_period_34 cb_m3 ?_
        exact zs_iret dX12_period_36 rfl rfl rfl
    · refine zs_bipush (v := (-2 : Int32)) dX12_period_27 cb_m2 ?_
      exact zs_iret dX12_period_29 rfl rfl rfl
/-! X12_countOf: PillarDeskModel.countOf(II)I -/
theorem dX12_countOf_0 : decode cX12_countOf 0 = .ok (.aload_n 0, 1) := by decide +kernel
theorem dX12_countOf_1 : decode cX12_countOf 1 = .ok (.getfield 13, 3) := by decide +kernel
theorem dX12_countOf_4 : decode cX12_countOf 4 = .ok (.bipush 66, 2) := by decide +kernel
theorem dX12_countOf_6 : decode cX12_countOf 6 = .ok (.iload_n 1, 1) := by decide +kernel
theorem dX12_countOf_7 : decode cX12_countOf 7 = .ok (.iadd, 1) := by decide +kernel
theorem dX12_countOf_8 : decode cX12_countOf 8 = .ok (.iaload, 1) := by decide +kernel
theorem dX12_countOf_9 : decode cX12_countOf 9 = .ok (.iload_n 2, 1) := by decide +kernel
theorem dX12_countOf_10 : decode cX12_countOf 10 = .ok (.iadd, 1) := by decide +kernel
theorem dX12_countOf_11 : decode cX12_countOf 11 = .ok (.istore_n 3, 1) := by decide +kernel
theorem dX12_countOf_12 : decode cX12_countOf 12 = .ok (.aload_n 0, 1) := by decide +kernel
theorem dX12_countOf_13 : decode cX12_countOf 13 = .ok (.getfield 13, 3) := by decide +kernel
theorem dX12_countOf_16 : decode cX12_countOf 16 = .ok (.bipush 6, 2) := by decide +kernel
theorem dX12_countOf_18 : decode cX12_countOf 18 = .ok (.iaload, 1) := by decide +kernel
theorem dX12_countOf_19 : decode cX12_countOf 19 = .ok (.iconst 1, 1) := by decide +kernel
theorem dX12_countOf_20 : decode cX12_countOf 20 = .ok (.if_icmp .ne 72, 3) := by decide +kernel
theorem dX12_countOf_23 : decode cX12_countOf 23 = .ok (.aload_n 0, 1) := by decide +kernel
theorem dX12_countOf_24 : decode cX12_countOf 24 = .ok (.getfield 33, 3) := by decide +kernel
theorem dX12_countOf_27 : decode cX12_countOf 27 = .ok (.iconst 0, 1) := by decide +kernel
theorem dX12_countOf_28 : decode cX12_countOf 28 = .ok (.aload_n 0, 1) := by decide +kernel
theorem dX12_countOf_29 : decode cX12_countOf 29 = .ok (.getfield 13, 3) := by decide +kernel
theorem dX12_countOf_32 : decode cX12_countOf 32 = .ok (.bipush 66, 2) := by decide +kernel
theorem dX12_countOf_34 : decode cX12_countOf 34 = .ok (.iload_n 1, 1) := by decide +kernel
theorem dX12_countOf_35 : decode cX12_countOf 35 = .ok (.iadd, 1) := by decide +kernel
theorem dX12_countOf_36 : decode cX12_countOf 36 = .ok (.iaload, 1) := by decide +kernel
theorem dX12_countOf_37 : decode cX12_countOf 37 = .ok (.iastore, 1) := by decide +kernel
theorem dX12_countOf_38 : decode cX12_countOf 38 = .ok (.aload_n 0, 1) := by decide +kernel
theorem dX12_countOf_39 : decode cX12_countOf 39 = .ok (.getfield 33, 3) := by decide +kernel
theorem dX12_countOf_42 : decode cX12_countOf 42 = .ok (.iconst 1, 1) := by decide +kernel
theorem dX12_countOf_43 : decode cX12_countOf 43 = .ok (.aload_n 0, 1) := by decide +kernel
theorem dX12_countOf_44 : decode cX12_countOf 44 = .ok (.getfield 39, 3) := by decide +kernel
theorem dX12_countOf_47 : decode cX12_countOf 47 = .ok (.iload_n 1, 1) := by decide +kernel
theorem dX12_countOf_48 : decode cX12_countOf 48 = .ok (.iaload, 1) := by decide +kernel
theorem dX12_countOf_49 : decode cX12_countOf 49 = .ok (.aload_n 0, 1) := by decide +kernel
theorem dX12_countOf_50 : decode cX12_countOf 50 = .ok (.getfield 36, 3) := by decide +kernel
theorem dX12_countOf_53 : decode cX12_countOf 53 = .ok (.iload_n 1, 1) := by decide +kernel
theorem dX12_countOf_54 : decode cX12_countOf 54 = .ok (.iaload, 1) := by decide +kernel
theorem dX12_countOf_55 : decode cX12_countOf 55 = .ok (.isub, 1) := by decide +kernel
theorem dX12_countOf_56 : decode cX12_countOf 56 = .ok (.iastore, 1) := by decide +kernel
theorem dX12_countOf_57 : decode cX12_countOf 57 = .ok (.aload_n 0, 1) := by decide +kernel
theorem dX12_countOf_58 : decode cX12_countOf 58 = .ok (.getfield 33, 3) := by decide +kernel
theorem dX12_countOf_61 : decode cX12_countOf 61 = .ok (.iconst 2, 1) := by decide +kernel
theorem dX12_countOf_62 : decode cX12_countOf 62 = .ok (.aload_n 0, 1) := by decide +kernel
theorem dX12_countOf_63 : decode cX12_countOf 63 = .ok (.getfield 13, 3) := by decide +kernel
theorem dX12_countOf_66 : decode cX12_countOf 66 = .ok (.bipush 24, 2) := by decide +kernel
theorem dX12_countOf_68 : decode cX12_countOf 68 = .ok (.iload_n 1, 1) := by decide +kernel
theorem dX12_countOf_69 : decode cX12_countOf 69 = .ok (.iadd, 1) := by decide +kernel
theorem dX12_countOf_70 : decode cX12_countOf 70 = .ok (.iaload, 1) := by decide +kernel
theorem dX12_countOf_71 : decode cX12_countOf 71 = .ok (.iastore, 1) := by decide +kernel
theorem dX12_countOf_72 : decode cX12_countOf 72 = .ok (.aload_n 0, 1) := by decide +kernel
theorem dX12_countOf_73 : decode cX12_countOf 73 = .ok (.getfield 33, 3) := by decide +kernel
theorem dX12_countOf_76 : decode cX12_countOf 76 = .ok (.iconst 3, 1) := by decide +kernel
theorem dX12_countOf_77 : decode cX12_countOf 77 = .ok (.iload_n 2, 1) := by decide +kernel
theorem dX12_countOf_78 : decode cX12_countOf 78 = .ok (.iastore, 1) := by decide +kernel
theorem dX12_countOf_79 : decode cX12_countOf 79 = .ok (.aload_n 0, 1) := by decide +kernel
theorem dX12_countOf_80 : decode cX12_countOf 80 = .ok (.getfield 33, 3) := by decide +kernel
theorem dX12_countOf_83 : decode cX12_countOf 83 = .ok (.iconst 4, 1) := by decide +kernel
theorem dX12_countOf_84 : decode cX12_countOf 84 = .ok (.iload_n 1, 1) := by decide +kernel
theorem dX12_countOf_85 : decode cX12_countOf 85 = .ok (.iastore, 1) := by decide +kernel
theorem dX12_countOf_86 : decode cX12_countOf 86 = .ok (.aload_n 0, 1) := by decide +kernel
theorem dX12_countOf_87 : decode cX12_countOf 87 = .ok (.iconst 0, 1) := by decide +kernel
theorem dX12_countOf_88 : decode cX12_countOf 88 = .ok (.invokevirtual 239, 3) := by decide +kernel
theorem dX12_countOf_91 : decode cX12_countOf 91 = .ok (.istore_n 3, 1) := by decide +kernel
theorem dX12_countOf_92 : decode cX12_countOf 92 = .ok (.iload_n 3, 1) := by decide +kernel
theorem dX12_countOf_93 : decode cX12_countOf 93 = .ok (.iconst 0, 1) := by decide +kernel
theorem dX12_countOf_94 : decode cX12_countOf 94 = .ok (.sipush 999, 3) := by decide +kernel
theorem dX12_countOf_97 : decode cX12_countOf 97 = .ok (.invokestatic 266, 3) := by decide +kernel
theorem dX12_countOf_100 : decode cX12_countOf 100 = .ok (.ireturn, 1) := by decide +kernel
def f_X12_countOf_92   (v3 : Int32) (m : zz_Mem) : Option (Int32 × zz_Mem) :=
  zz_bndR (f_X12_kept v3 (0 : Int32) (999 : Int32)) fun r1 =>
  some (r1, m)
theorem t_X12_countOf_92 {l : Launch} {G : zz_G} (hN : 26 ≤ zz_N G)  : ∀ (v3 : Int32) (m : zz_Mem), zz_Sim zz_shM l G mX12_countOf 2 zz_vI zz_m2 (f_X12_countOf_92 v3 m) 92 [(3, .int v3)] [] m := by
  intro v3 m
  unfold f_X12_countOf_92
  refine zs_iload_n dX12_countOf_92 rfl 0 rfl ?_
  refine zs_iconst (v := (0 : Int32)) dX12_countOf_93 ci_0 ?_
  refine zs_sipush (v := (999 : Int32)) dX12_countOf_94 cs_999 ?_
  refine zs_cS_iR (rest := []) (k_X12_kept hN _ _ _ _) dX12_countOf_97 ls_X12_266 ok_X12_kept (Nat.le_of_ble_eq_true rfl) rfl rfl (Nat.le_of_ble_eq_true rfl) (fun r1 => ?_)
  exact zs_iret dX12_countOf_100 rfl rfl rfl
def f_X12_countOf  (p1 : Int32) (p2 : Int32) (m : zz_Mem) : Option (Int32 × zz_Mem) :=
  zz_ix ((66 : Int32) + p1) 3531 <|
  zz_letI ((m.1 1 ((66 : Int32) + p1).toNatClampNeg) + p2) fun x1 =>
  if (m.1 1 6) = (1 : Int32) then (
  zz_ix ((66 : Int32) + p1) 3531 <|
  zz_letM (zz_setI m 6 0 (m.1 1 ((66 : Int32) + p1).toNatClampNeg)) fun m2 =>
  zz_ix p1 8 <|
  zz_ix p1 8 <|
  zz_letM (zz_setI m2 6 1 ((m2.1 8 p1.toNatClampNeg) - (m2.1 7 p1.toNatClampNeg))) fun m3 =>
  zz_ix ((24 : Int32) + p1) 3531 <|
  zz_letM (zz_setI m3 6 2 (m3.1 1 ((24 : Int32) + p1).toNatClampNeg)) fun m4 =>
  zz_letM (zz_setI m4 6 3 p2) fun m5 =>
  zz_letM (zz_setI m5 6 4 p1) fun m6 =>
  zz_bnd (f_X12_reckons (0 : Int32) m6) fun r7 m8 =>
  f_X12_countOf_92 r7 m8)
  else (
  f_X12_countOf_92 x1 m)
theorem k_X12_countOf {l : Launch} {G : zz_G} (hN : 26 ≤ zz_N G) : ∀ (p1 : Int32) (p2 : Int32) (m : zz_Mem), zz_Con zz_shM l G mX12_countOf 2 [.ref (zz_a G 0), .int p1, .int p2] zz_vI zz_m2 (f_X12_countOf p1 p2 m) m := by
  intro p1 p2 m
  refine zz_con (lv := [(0, .ref (zz_a G 0)), (1, .int p1), (2, .int p2)]) (by decide +kernel) (Nat.le_of_ble_eq_true rfl) rfl ?_
  unfold f_X12_countOf
  refine zs_aload_n dX12_countOf_0 rfl 0 rfl ?_
  refine zs_getR fl_X12_13 dX12_countOf_1 (shm_0 hN) rfl ?_
  refine zs_bipush (v := (66 : Int32)) dX12_countOf_4 cb_66 ?_
  refine zs_iload_n dX12_countOf_6 rfl 1 rfl ?_
  refine zs_iadd dX12_countOf_7 ?_
  refine zs_ialdG dX12_countOf_8 (shm_1 hN) ?_
  refine zs_iload_n dX12_countOf_9 rfl 2 rfl ?_
  refine zs_iadd dX12_countOf_10 ?_
  refine zs_letI (fun x1 => ?_)
  refine zs_istore_n [(3, .int x1), (0, .ref (zz_a G 0)), (1, .int p1), (2, .int p2)] dX12_countOf_11 rfl (Nat.le_of_ble_eq_true rfl) rfl ?_
  refine zs_aload_n dX12_countOf_12 rfl 1 rfl ?_
  refine zs_getR fl_X12_13 dX12_countOf_13 (shm_0 hN) rfl ?_
  refine zs_bipush (v := (6 : Int32)) dX12_countOf_16 cb_6 ?_
  refine zs_ialdC dX12_countOf_18 (shm_1 hN) vin_6_3531 clp_6 ?_
  refine zs_iconst (v := (1 : Int32)) dX12_countOf_19 ci_1 ?_
  refine zs_icmp_ne (tgt := 92) dX12_countOf_20 (by decide) ?_ ?_
  · refine zs_sub [0] rfl ?_
    exact t_X12_countOf_92 hN _ _
  · refine zs_aload_n dX12_countOf_23 rfl 1 rfl ?_
    refine zs_getR fl_X12_33 dX12_countOf_24 (shm_0 hN) rfl ?_
    refine zs_iconst (v := (0 : Int32)) dX12_countOf_27 ci_0 ?_
    refine zs_aload_n dX12_countOf_28 rfl 1 rfl ?_
    refine zs_getR fl_X12_13 dX12_countOf_29 (shm_0 hN) rfl ?_
    refine zs_bipush (v := (66 : Int32)) dX12_countOf_32 cb_66 ?_
    refine zs_iload_n dX12_countOf_34 rfl 2 rfl ?_
    refine zs_iadd dX12_countOf_35 ?_
    refine zs_ialdG dX12_countOf_36 (shm_1 hN) ?_
    refine zs_iastC dX12_countOf_37 (shm_6 hN) vin_0_8 clp_0 (fun m2 => ?_)
    refine zs_aload_n dX12_countOf_38 rfl 1 rfl ?_
    refine zs_getR fl_X12_33 dX12_countOf_39 (shm_0 hN) rfl ?_
    refine zs_iconst (v := (1 : Int32)) dX12_countOf_42 ci_1 ?_
    refine zs_aload_n dX12_countOf_43 rfl 1 rfl ?_
    refine zs_getR fl_X12_39 dX12_countOf_44 (shm_0 hN) rfl ?_
    refine zs_iload_n dX12_countOf_47 rfl 2 rfl ?_
    refine zs_ialdG dX12_countOf_48 (shm_8 hN) ?_
    refine zs_aload_n dX12_countOf_49 rfl 1 rfl ?_
    refine zs_getR fl_X12_36 dX12_countOf_50 (shm_0 hN) rfl ?_
    refine zs_iload_n dX12_countOf_53 rfl 2 rfl ?_
    refine zs_ialdG dX12_countOf_54 (shm_7 hN) ?_
    refine zs_isub dX12_countOf_55 ?_
    refine zs_iastC dX12_countOf_56 (shm_6 hN) vin_1_8 clp_1 (fun m3 => ?_)
    refine zs_aload_n dX12_countOf_57 rfl 1 rfl ?_
    refine zs_getR fl_X12_33 dX12_countOf_58 (shm_0 hN) rfl ?_
    refine zs_iconst (v := (2 : Int32)) dX12_countOf_61 ci_2 ?_
    refine zs_aload_n dX12_countOf_62 rfl 1 rfl ?_
    refine zs_getR fl_X12_13 dX12_countOf_63 (shm_0 hN) rfl ?_
    refine zs_bipush (v := (24 : Int32)) dX12_countOf_66 cb_24 ?_
    refine zs_iload_n dX12_countOf_68 rfl 2 rfl ?_
    refine zs_iadd dX12_countOf_69 ?_
    refine zs_ialdG dX12_countOf_70 (shm_1 hN) ?_
    refine zs_iastC dX12_countOf_71 (shm_6 hN) vin_2_8 clp_2 (fun m4 => ?_)
    refine zs_aload_n dX12_countOf_72 rfl 1 rfl ?_
    refine zs_getR fl_X12_33 dX12_countOf_73 (shm_0 hN) rfl ?_
    refine zs_iconst (v := (3 : Int32)) dX12_countOf_76 ci_3 ?_
    refine zs_iload_n dX12_countOf_77 rfl 3 rfl ?_
    refine zs_iastC dX12_countOf_78 (shm_6 hN) vin_3_8 clp_3 (fun m5 => ?_)
    refine zs_aload_n dX12_countOf_79 rfl 1 rfl ?_
    refine zs_getR fl_X12_33 dX12_countOf_80 (shm_0 hN) rfl ?_
    refine zs_iconst (v := (4 : Int32)) dX12_countOf_83 ci_4 ?_
    refine zs_iload_n dX12_countOf_84 rfl 2 rfl ?_
    refine zs_iastC dX12_countOf_85 (shm_6 hN) vin_4_8 clp_4 (fun m6 => ?_)
    refine zs_aload_n dX12_countOf_86 rfl 1 rfl ?_
    refine zs_iconst (v := (0 : Int32)) dX12_countOf_87 ci_0 ?_
    refine zs_cV_iW (rest := []) (k_X12_reckons hN _ _) dX12_countOf_88 lv_X12_239 ok_X12_reckons (zz_rcv_o (shm_0 hN) rfl) (Nat.le_of_ble_eq_true rfl) rfl rfl (Nat.le_of_ble_eq_true rfl) (fun r7 m8 => ?_)
    refine zs_istore_n [(3, .int r7), (0, .ref (zz_a G 0)), (1, .int p1), (2, .int p2)] dX12_countOf_91 rfl (Nat.le_of_ble_eq_true rfl) rfl ?_
    refine zs_sub [0] rfl ?_
    exact t_X12_countOf_92 hN _ _
/-! X12_laysCounts: PillarDeskModel.laysCounts(I)V -/
theorem dX12_laysCounts_0 : decode cX12_laysCounts 0 = .ok (.iconst 0, 1) := by decide +kernel
theorem dX12_laysCounts_1 : decode cX12_laysCounts 1 = .ok (.istore_n 2, 1) := by decide +kernel
theorem dX12_laysCounts_2 : decode cX12_laysCounts 2 = .ok (.iload_n 2, 1) := by decide +kernel
theorem dX12_laysCounts_3 : decode cX12_laysCounts 3 = .ok (.aload_n 0, 1) := by decide +kernel
theorem dX12_laysCounts_4 : decode cX12_laysCounts 4 = .ok (.getfield 13, 3) := by decide +kernel
theorem dX12_laysCounts_7 : decode cX12_laysCounts 7 = .ok (.iconst 4, 1) := by decide +kernel
theorem dX12_laysCounts_8 : decode cX12_laysCounts 8 = .ok (.iaload, 1) := by decide +kernel
theorem dX12_laysCounts_9 : decode cX12_laysCounts 9 = .ok (.if_icmp .ge 21, 3) := by decide +kernel
theorem dX12_laysCounts_12 : decode cX12_laysCounts 12 = .ok (.aload_n 0, 1) := by decide +kernel
theorem dX12_laysCounts_13 : decode cX12_laysCounts 13 = .ok (.getfield 51, 3) := by decide +kernel
theorem dX12_laysCounts_16 : decode cX12_laysCounts 16 = .ok (.iload_n 2, 1) := by decide +kernel
theorem dX12_laysCounts_17 : decode cX12_laysCounts 17 = .ok (.aload_n 0, 1) := by decide +kernel
theorem dX12_laysCounts_18 : decode cX12_laysCounts 18 = .ok (.iload_n 2, 1) := by decide +kernel
theorem dX12_laysCounts_19 : decode cX12_laysCounts 19 = .ok (.iload_n 1, 1) := by decide +kernel
theorem dX12_laysCounts_20 : decode cX12_laysCounts 20 = .ok (.invokevirtual 269, 3) := by decide +kernel
theorem dX12_laysCounts_23 : decode cX12_laysCounts 23 = .ok (.iastore, 1) := by decide +kernel
theorem dX12_laysCounts_24 : decode cX12_laysCounts 24 = .ok (.iinc 2 1, 3) := by decide +kernel
theorem dX12_laysCounts_27 : decode cX12_laysCounts 27 = .ok (.goto (-25), 3) := by decide +kernel
theorem dX12_laysCounts_30 : decode cX12_laysCounts 30 = .ok (.return_, 1) := by decide +kernel
def f_X12_laysCounts_2   : Nat → Int32 → Int32 → zz_Mem → Option zz_Mem
  | 0, _, _, _ => none
  | n + 1, v1, v2, m =>
  if (m.1 1 4) ≤ v2 then (
  some m)
  else (
  zz_bnd (f_X12_countOf v2 v1 m) fun r1 m2 =>
  zz_ix v2 8 <| zz_letM (zz_setI m2 12 v2.toNatClampNeg r1) fun m3 =>
  zz_letI (v2 + (1 : Int32)) fun x4 =>
  f_X12_laysCounts_2 n v1 x4 m3)
theorem t_X12_laysCounts_2 {l : Launch} {G : zz_G} (hN : 26 ≤ zz_N G)  : ∀ (n : Nat) (v1 : Int32) (v2 : Int32) (m : zz_Mem), zz_Sim zz_shM l G mX12_laysCounts 3 zz_vV zz_mV (f_X12_laysCounts_2 n v1 v2 m) 2 [(0, .ref (zz_a G 0)), (1, .int v1), (2, .int v2)] [] m := by
  intro n
  induction n with
  | zero => intro _ _ _; exact zs_none
  | succ n ih =>
    intro v1 v2 m
    rw [f_X12_laysCounts_2]
    refine zs_iload_n dX12_laysCounts_2 rfl 2 rfl ?_
    refine zs_aload_n dX12_laysCounts_3 rfl 0 rfl ?_
    refine zs_getR fl_X12_13 dX12_laysCounts_4 (shm_0 hN) rfl ?_
    refine zs_iconst (v := (4 : Int32)) dX12_laysCounts_7 ci_4 ?_
    refine zs_ialdC dX12_laysCounts_8 (shm_1 hN) vin_4_3531 clp_4 ?_
    refine zs_icmp_ge (tgt := 30) dX12_laysCounts_9 (by decide) ?_ ?_
    · exact zs_vret dX12_laysCounts_30 rfl rfl rfl
    · refine zs_aload_n dX12_laysCounts_12 rfl 0 rfl ?_
      refine zs_getR fl_X12_51 dX12_laysCounts_13 (shm_0 hN) rfl ?_
      refine zs_iload_n dX12_laysCounts_16 rfl 2 rfl ?_
      refine zs_aload_n dX12_laysCounts_17 rfl 0 rfl ?_
      refine zs_iload_n dX12_laysCounts_18 rfl 2 rfl ?_
      refine zs_iload_n dX12_laysCounts_19 rfl 1 rfl ?_
      refine zs_cV_iW (rest := [.int v2, .ref (zz_a G 12)]) (k_X12_countOf hN _ _ _) dX12_laysCounts_20 lv_X12_269 ok_X12_countOf (zz_rcv_o (shm_0 hN) rfl) (Nat.le_of_ble_eq_true rfl) rfl rfl (Nat.le_of_ble_eq_true rfl) (fun r1 m2 => ?_)
      refine zs_iastG dX12_laysCounts_23 (shm_12 hN) (fun m3 => ?_)
      refine zs_iinc (fun y => [(2, .int y), (0, .ref (zz_a G 0)), (1, .int v1)]) dX12_laysCounts_24 2 rfl ci_1 (Nat.le_of_ble_eq_true rfl) (fun _ => rfl) (fun x4 => ?_)
      refine zs_goto (tgt := 2) dX12_laysCounts_27 (by decide) ?_
      refine zs_sub [1, 2, 0] rfl ?_
      exact ih _ _ _
def f_X12_laysCounts  (p1 : Int32) (m : zz_Mem) : Option zz_Mem :=
  f_X12_laysCounts_2 zz_fuel p1 (0 : Int32) m
theorem k_X12_laysCounts {l : Launch} {G : zz_G} (hN : 26 ≤ zz_N G) : ∀ (p1 : Int32) (m : zz_Mem), zz_Con zz_shM l G mX12_laysCounts 3 [.ref (zz_a G 0), .int p1] zz_vV zz_mV (f_X12_laysCounts p1 m) m := by
  intro p1 m
  refine zz_con (lv := [(0, .ref (zz_a G 0)), (1, .int p1)]) (by decide +kernel) (Nat.le_of_ble_eq_true rfl) rfl ?_
  unfold f_X12_laysCounts
  refine zs_iconst (v := (0 : Int32)) dX12_laysCounts_0 ci_0 ?_
  refine zs_istore_n [(2, .int (0 : Int32)), (0, .ref (zz_a G 0)), (1, .int p1)] dX12_laysCounts_1 rfl (Nat.le_of_ble_eq_true rfl) rfl ?_
  refine zs_sub [1, 2, 0] rfl ?_
  exact t_X12_laysCounts_2 hN zz_fuel _ _ _
/-! X12_floorOf: PillarDeskModel.floorOf(JJ)J -/
theorem dX12_floorOf_0 : decode cX12_floorOf 0 = .ok (.lload_n 0, 1) := by decide +kernel
theorem dX12_floorOf_1 : decode cX12_floorOf 1 = .ok (.lload_n 2, 1) := by decide +kernel
theorem dX12_floorOf_2 : decode cX12_floorOf 2 = .ok (.ldiv, 1) := by decide +kernel
theorem dX12_floorOf_3 : decode cX12_floorOf 3 = .ok (.lstore 4, 2) := by decide +kernel
theorem dX12_floorOf_5 : decode cX12_floorOf 5 = .ok (.lload 4, 2) := by decide +kernel
theorem dX12_floorOf_7 : decode cX12_floorOf 7 = .ok (.lload_n 2, 1) := by decide +kernel
theorem dX12_floorOf_8 : decode cX12_floorOf 8 = .ok (.lmul, 1) := by decide +kernel
theorem dX12_floorOf_9 : decode cX12_floorOf 9 = .ok (.lload_n 0, 1) := by decide +kernel
theorem dX12_floorOf_10 : decode cX12_floorOf 10 = .ok (.lcmp, 1) := by decide +kernel
theorem dX12_floorOf_11 : decode cX12_floorOf 11 = .ok (.ifCond .le 10, 3) := by decide +kernel
theorem dX12_floorOf_14 : decode cX12_floorOf 14 = .ok (.lload 4, 2) := by decide +kernel
theorem dX12_floorOf_16 : decode cX12_floorOf 16 = .ok (.lconst 1, 1) := by decide +kernel
theorem dX12_floorOf_17 : decode cX12_floorOf 17 = .ok (.lsub, 1) := by decide +kernel
theorem dX12_floorOf_18 : decode cX12_floorOf 18 = .ok (.goto 5, 3) := by decide +kernel
theorem dX12_floorOf_21 : decode cX12_floorOf 21 = .ok (.lload 4, 2) := by decide +kernel
theorem dX12_floorOf_23 : decode cX12_floorOf 23 = .ok (.lreturn, 1) := by decide +kernel
def f_X12_floorOf  (p0 : Int64) (p2 : Int64) : Option Int64 :=
  zz_nzJ p2 <|
  zz_letJ (p0 / p2) fun y1 =>
  if (y1 * p2) ≤ p0 then (
  some y1)
  else (
  some (y1 - (1 : Int64)))
theorem k_X12_floorOf {l : Launch} {G : zz_G} (hN : 26 ≤ zz_N G) : ∀ (p0 : Int64) (p2 : Int64) (m : zz_Mem), zz_Con zz_shM l G mX12_floorOf 0 [.long p0, .long p2] zz_vJr (zz_mC m) (f_X12_floorOf p0 p2) m := by
  intro p0 p2 m
  refine zz_con (lv := [(0, .long p0), (2, .long p2)]) (by decide +kernel) (Nat.le_of_ble_eq_true rfl) rfl ?_
  unfold f_X12_floorOf
  refine zs_lload_n dX12_floorOf_0 rfl 0 rfl ?_
  refine zs_lload_n dX12_floorOf_1 rfl 1 rfl ?_
  refine zs_ldivG dX12_floorOf_2 ?_
  refine zs_letJ (fun y1 => ?_)
  refine zs_lstore [(4, .long y1), (0, .long p0), (2, .long p2)] dX12_floorOf_3 (Nat.le_of_ble_eq_true rfl) rfl ?_
  refine zs_lload dX12_floorOf_5 0 rfl ?_
  refine zs_lload_n dX12_floorOf_7 rfl 2 rfl ?_
  refine zs_lmul dX12_floorOf_8 ?_
  refine zs_lload_n dX12_floorOf_9 rfl 1 rfl ?_
  refine zs_lcmp_le (tgt := 21) dX12_floorOf_10 dX12_floorOf_11 (by decide) ?_ ?_
  · refine zs_lload dX12_floorOf_21 0 rfl ?_
    exact zs_lret dX12_floorOf_23 rfl rfl rfl
  · refine zs_lload dX12_floorOf_14 0 rfl ?_
    refine zs_lconst (v := (1 : Int64)) dX12_floorOf_16 rfl ?_
    refine zs_lsub dX12_floorOf_17 ?_
    refine zs_goto (tgt := 23) dX12_floorOf_18 (by decide) ?_
    exact zs_lret dX12_floorOf_23 rfl rfl rfl
/-! X12_pillarAt: PillarDeskModel.pillarAt(I)I -/
theorem dX12_pillarAt_0 : decode cX12_pillarAt 0 = .ok (.aload_n 0, 1) := by decide +kernel
theorem dX12_pillarAt_1 : decode cX12_pillarAt 1 = .ok (.getfield 272, 3) := by decide +kernel
theorem dX12_pillarAt_4 : decode cX12_pillarAt 4 = .ok (.iconst 1, 1) := by decide +kernel
theorem dX12_pillarAt_5 : decode cX12_pillarAt 5 = .ok (.isub, 1) := by decide +kernel
theorem dX12_pillarAt_6 : decode cX12_pillarAt 6 = .ok (.istore_n 2, 1) := by decide +kernel
theorem dX12_pillarAt_7 : decode cX12_pillarAt 7 = .ok (.aload_n 0, 1) := by decide +kernel
theorem dX12_pillarAt_8 : decode cX12_pillarAt 8 = .ok (.getfield 54, 3) := by decide +kernel
theorem dX12_pillarAt_11 : decode cX12_pillarAt 11 = .ok (.iload_n 2, 1) := by decide +kernel
theorem dX12_pillarAt_12 : decode cX12_pillarAt 12 = .ok (.iaload, 1) := by decide +kernel
theorem dX12_pillarAt_13 : decode cX12_pillarAt 13 = .ok (.iload_n 1, 1) := by decide +kernel
theorem dX12_pillarAt_14 : decode cX12_pillarAt 14 = .ok (.if_icmp .le 9, 3) := by decide +kernel
theorem dX12_pillarAt_17 : decode cX12_pillarAt 17 = .ok (.iinc 2 (-1), 3) := by decide +kernel
theorem dX12_pillarAt_20 : decode cX12_pillarAt 20 = .ok (.goto (-13), 3) := by decide +kernel
theorem dX12_pillarAt_23 : decode cX12_pillarAt 23 = .ok (.iload_n 2, 1) := by decide +kernel
theorem dX12_pillarAt_24 : decode cX12_pillarAt 24 = .ok (.ireturn, 1) := by decide +kernel
def f_X12_pillarAt_7 (m : zz_Mem)  : Nat → Int32 → Int32 → Option Int32
  | 0, _, _ => none
  | n + 1, v1, v2 =>
  zz_ix v2 9 <|
  if (m.1 13 v2.toNatClampNeg) ≤ v1 then (
  some v2)
  else (
  zz_letI (v2 + (-1 : Int32)) fun x1 =>
  f_X12_pillarAt_7 m n v1 x1)
theorem t_X12_pillarAt_7 {l : Launch} {G : zz_G} (hN : 26 ≤ zz_N G) {m : zz_Mem}  : ∀ (n : Nat) (v1 : Int32) (v2 : Int32), zz_Sim zz_shM l G mX12_pillarAt 0 zz_vIr (zz_mC m) (f_X12_pillarAt_7 m n v1 v2) 7 [(0, .ref (zz_a G 0)), (1, .int v1), (2, .int v2)] [] m := by
  intro n
  induction n with
  | zero => intro _ _; exact zs_none
  | succ n ih =>
    intro v1 v2
    rw [f_X12_pillarAt_7]
    refine zs_aload_n dX12_pillarAt_7 rfl 0 rfl ?_
    refine zs_getR fl_X12_54 dX12_pillarAt_8 (shm_0 hN) rfl ?_
    refine zs_iload_n dX12_pillarAt_11 rfl 2 rfl ?_
    refine zs_ialdG dX12_pillarAt_12 (shm_13 hN) ?_
    refine zs_iload_n dX12_pillarAt_13 rfl 1 rfl ?_
    refine zs_icmp_le (tgt := 23) dX12_pillarAt_14 (by decide) ?_ ?_
    · refine zs_iload_n dX12_pillarAt_23 rfl 2 rfl ?_
      exact zs_iret dX12_pillarAt_24 rfl rfl rfl
    · refine zs_iinc (fun y => [(2, .int y), (0, .ref (zz_a G 0)), (1, .int v1)]) dX12_pillarAt_17 2 rfl ci_m1 (Nat.le_of_ble_eq_true rfl) (fun _ => rfl) (fun x1 => ?_)
      refine zs_goto (tgt := 7) dX12_pillarAt_20 (by decide) ?_
      refine zs_sub [1, 2, 0] rfl ?_
      exact ih _ _
def f_X12_pillarAt (m : zz_Mem) (p1 : Int32) : Option Int32 :=
  zz_letI ((m.1 0 28) - (1 : Int32)) fun x1 =>
  f_X12_pillarAt_7 m zz_fuel p1 x1
theorem k_X12_pillarAt {l : Launch} {G : zz_G} (hN : 26 ≤ zz_N G) : ∀ (p1 : Int32) (m : zz_Mem), zz_Con zz_shM l G mX12_pillarAt 0 [.ref (zz_a G 0), .int p1] zz_vIr (zz_mC m) (f_X12_pillarAt m p1) m := by
  intro p1 m
  refine zz_con (lv := [(0, .ref (zz_a G 0)), (1, .int p1)]) (by decide +kernel) (Nat.le_of_ble_eq_true rfl) rfl ?_
  unfold f_X12_pillarAt
  refine zs_aload_n dX12_pillarAt_0 rfl 0 rfl ?_
  refine zs_getI fl_X12_272 dX12_pillarAt_1 (shm_0 hN) rfl ?_
  refine zs_iconst (v := (1 : Int32)) dX12_pillarAt_4 ci_1 ?_
  refine zs_isub dX12_pillarAt_5 ?_
  refine zs_letI (fun x1 => ?_)
  refine zs_istore_n [(2, .int x1), (0, .ref (zz_a G 0)), (1, .int p1)] dX12_pillarAt_6 rfl (Nat.le_of_ble_eq_true rfl) rfl ?_
  refine zs_sub [1, 2, 0] rfl ?_
  exact t_X12_pillarAt_7 hN zz_fuel _ _
/-! X12_factorAt: PillarDeskModel.factorAt(I)I -/
theorem dX12_factorAt_0 : decode cX12_factorAt 0 = .ok (.aload_n 0, 1) := by decide +kernel
theorem dX12_factorAt_1 : decode cX12_factorAt 1 = .ok (.iload_n 1, 1) := by decide +kernel
theorem dX12_factorAt_2 : decode cX12_factorAt 2 = .ok (.invokevirtual 275, 3) := by decide +kernel
theorem dX12_factorAt_5 : decode cX12_factorAt 5 = .ok (.istore_n 2, 1) := by decide +kernel
theorem dX12_factorAt_6 : decode cX12_factorAt 6 = .ok (.iload_n 2, 1) := by decide +kernel
theorem dX12_factorAt_7 : decode cX12_factorAt 7 = .ok (.aload_n 0, 1) := by decide +kernel
theorem dX12_factorAt_8 : decode cX12_factorAt 8 = .ok (.getfield 272, 3) := by decide +kernel
theorem dX12_factorAt_11 : decode cX12_factorAt 11 = .ok (.iconst 1, 1) := by decide +kernel
theorem dX12_factorAt_12 : decode cX12_factorAt 12 = .ok (.isub, 1) := by decide +kernel
theorem dX12_factorAt_13 : decode cX12_factorAt 13 = .ok (.if_icmp .eq 13, 3) := by decide +kernel
theorem dX12_factorAt_16 : decode cX12_factorAt 16 = .ok (.aload_n 0, 1) := by decide +kernel
theorem dX12_factorAt_17 : decode cX12_factorAt 17 = .ok (.getfield 13, 3) := by decide +kernel
theorem dX12_factorAt_20 : decode cX12_factorAt 20 = .ok (.iconst 2, 1) := by decide +kernel
theorem dX12_factorAt_21 : decode cX12_factorAt 21 = .ok (.iaload, 1) := by decide +kernel
theorem dX12_factorAt_22 : decode cX12_factorAt 22 = .ok (.iconst 1, 1) := by decide +kernel
theorem dX12_factorAt_23 : decode cX12_factorAt 23 = .ok (.if_icmp .ne 10, 3) := by decide +kernel
theorem dX12_factorAt_26 : decode cX12_factorAt 26 = .ok (.aload_n 0, 1) := by decide +kernel
theorem dX12_factorAt_27 : decode cX12_factorAt 27 = .ok (.getfield 57, 3) := by decide +kernel
theorem dX12_factorAt_30 : decode cX12_factorAt 30 = .ok (.iload_n 2, 1) := by decide +kernel
theorem dX12_factorAt_31 : decode cX12_factorAt 31 = .ok (.iaload, 1) := by decide +kernel
theorem dX12_factorAt_32 : decode cX12_factorAt 32 = .ok (.ireturn, 1) := by decide +kernel
theorem dX12_factorAt_33 : decode cX12_factorAt 33 = .ok (.aload_n 0, 1) := by decide +kernel
theorem dX12_factorAt_34 : decode cX12_factorAt 34 = .ok (.getfield 57, 3) := by decide +kernel
theorem dX12_factorAt_37 : decode cX12_factorAt 37 = .ok (.iload_n 2, 1) := by decide +kernel
theorem dX12_factorAt_38 : decode cX12_factorAt 38 = .ok (.iconst 1, 1) := by decide +kernel
theorem dX12_factorAt_39 : decode cX12_factorAt 39 = .ok (.iadd, 1) := by decide +kernel
theorem dX12_factorAt_40 : decode cX12_factorAt 40 = .ok (.iaload, 1) := by decide +kernel
theorem dX12_factorAt_41 : decode cX12_factorAt 41 = .ok (.aload_n 0, 1) := by decide +kernel
theorem dX12_factorAt_42 : decode cX12_factorAt 42 = .ok (.getfield 57, 3) := by decide +kernel
theorem dX12_factorAt_45 : decode cX12_factorAt 45 = .ok (.iload_n 2, 1) := by decide +kernel
theorem dX12_factorAt_46 : decode cX12_factorAt 46 = .ok (.iaload, 1) := by decide +kernel
theorem dX12_factorAt_47 : decode cX12_factorAt 47 = .ok (.isub, 1) := by decide +kernel
theorem dX12_factorAt_48 : decode cX12_factorAt 48 = .ok (.i2l, 1) := by decide +kernel
theorem dX12_factorAt_49 : decode cX12_factorAt 49 = .ok (.iload_n 1, 1) := by decide +kernel
theorem dX12_factorAt_50 : decode cX12_factorAt 50 = .ok (.aload_n 0, 1) := by decide +kernel
theorem dX12_factorAt_51 : decode cX12_factorAt 51 = .ok (.getfield 54, 3) := by decide +kernel
theorem dX12_factorAt_54 : decode cX12_factorAt 54 = .ok (.iload_n 2, 1) := by decide +kernel
theorem dX12_factorAt_55 : decode cX12_factorAt 55 = .ok (.iaload, 1) := by decide +kernel
theorem dX12_factorAt_56 : decode cX12_factorAt 56 = .ok (.isub, 1) := by decide +kernel
theorem dX12_factorAt_57 : decode cX12_factorAt 57 = .ok (.i2l, 1) := by decide +kernel
theorem dX12_factorAt_58 : decode cX12_factorAt 58 = .ok (.lmul, 1) := by decide +kernel
theorem dX12_factorAt_59 : decode cX12_factorAt 59 = .ok (.lstore_n 3, 1) := by decide +kernel
theorem dX12_factorAt_60 : decode cX12_factorAt 60 = .ok (.aload_n 0, 1) := by decide +kernel
theorem dX12_factorAt_61 : decode cX12_factorAt 61 = .ok (.getfield 57, 3) := by decide +kernel
theorem dX12_factorAt_64 : decode cX12_factorAt 64 = .ok (.iload_n 2, 1) := by decide +kernel
theorem dX12_factorAt_65 : decode cX12_factorAt 65 = .ok (.iaload, 1) := by decide +kernel
theorem dX12_factorAt_66 : decode cX12_factorAt 66 = .ok (.lload_n 3, 1) := by decide +kernel
theorem dX12_factorAt_67 : decode cX12_factorAt 67 = .ok (.aload_n 0, 1) := by decide +kernel
theorem dX12_factorAt_68 : decode cX12_factorAt 68 = .ok (.getfield 54, 3) := by decide +kernel
theorem dX12_factorAt_71 : decode cX12_factorAt 71 = .ok (.iload_n 2, 1) := by decide +kernel
theorem dX12_factorAt_72 : decode cX12_factorAt 72 = .ok (.iconst 1, 1) := by decide +kernel
theorem dX12_factorAt_73 : decode cX12_factorAt 73 = .ok (.iadd, 1) := by decide +kernel
theorem dX12_factorAt_74 : decode cX12_factorAt 74 = .ok (.iaload, 1) := by decide +kernel
theorem dX12_factorAt_75 : decode cX12_factorAt 75 = .ok (.aload_n 0, 1) := by decide +kernel
theorem dX12_factorAt_76 : decode cX12_factorAt 76 = .ok (.getfield 54, 3) := by decide +kernel
theorem dX12_factorAt_79 : decode cX12_factorAt 79 = .ok (.iload_n 2, 1) := by decide +kernel
theorem dX12_factorAt_80 : decode cX12_factorAt 80 = .ok (.iaload, 1) := by decide +kernel
theorem dX12_factorAt_81 : decode cX12_factorAt 81 = .ok (.isub, 1) := by decide +kernel
theorem dX12_factorAt_82 : decode cX12_factorAt 82 = .ok (.i2l, 1) := by decide +kernel
theorem dX12_factorAt_83 : decode cX12_factorAt 83 = .ok (.invokestatic 278, 3) := by decide +kernel
theorem dX12_factorAt_86 : decode cX12_factorAt 86 = .ok (.l2i, 1) := by decide +kernel
theorem dX12_factorAt_87 : decode cX12_factorAt 87 = .ok (.iadd, 1) := by decide +kernel
theorem dX12_factorAt_88 : decode cX12_factorAt 88 = .ok (.ireturn, 1) := by decide +kernel
def f_X12_factorAt (m : zz_Mem) (p1 : Int32) : Option Int32 :=
  zz_bndR (f_X12_pillarAt m p1) fun r1 =>
  if r1 = ((m.1 0 28) - (1 : Int32)) then (
  zz_ix r1 9 <|
  some (m.1 14 r1.toNatClampNeg))
  else (
  if (m.1 1 2) = (1 : Int32) then (
  zz_ix r1 9 <|
  some (m.1 14 r1.toNatClampNeg))
  else (
  zz_ix (r1 + (1 : Int32)) 9 <|
  zz_ix r1 9 <|
  zz_ix r1 9 <|
  zz_letJ ((((m.1 14 (r1 + (1 : Int32)).toNatClampNeg) - (m.1 14 r1.toNatClampNeg)).toInt64) * ((p1 - (m.1 13 r1.toNatClampNeg)).toInt64)) fun y2 =>
  zz_ix r1 9 <|
  zz_ix (r1 + (1 : Int32)) 9 <|
  zz_ix r1 9 <|
  zz_bndR (f_X12_floorOf y2 (((m.1 13 (r1 + (1 : Int32)).toNatClampNeg) - (m.1 13 r1.toNatClampNeg)).toInt64)) fun r3 =>
  some ((m.1 14 r1.toNatClampNeg) + r3.toInt32)))
theorem k_X12_factorAt {l : Launch} {G : zz_G} (hN : 26 ≤ zz_N G) : ∀ (p1 : Int32) (m : zz_Mem), zz_Con zz_shM l G mX12_factorAt 1 [.ref (zz_a G 0), .int p1] zz_vIr (zz_mC m) (f_X12_factorAt m p1) m := by
  intro p1 m
  refine zz_con (lv := [(0, .ref (zz_a G 0)), (1, .int p1)]) (by decide +kernel) (Nat.le_of_ble_eq_true rfl) rfl ?_
  unfold f_X12_factorAt
  refine zs_aload_n dX12_factorAt_0 rfl 0 rfl ?_
  refine zs_iload_n dX12_factorAt_1 rfl 1 rfl ?_
  refine zs_cV_iR (rest := []) (k_X12_pillarAt hN _ _) dX12_factorAt_2 lv_X12_275 ok_X12_pillarAt (zz_rcv_o (shm_0 hN) rfl) (Nat.le_of_ble_eq_true rfl) rfl rfl (Nat.le_of_ble_eq_true rfl) (fun r1 => ?_)
  refine zs_istore_n [(2, .int r1), (0, .ref (zz_a G 0)), (1, .int p1)] dX12_factorAt_5 rfl (Nat.le_of_ble_eq_true rfl) rfl ?_
  refine zs_iload_n dX12_factorAt_6 rfl 0 rfl ?_
  refine zs_aload_n dX12_factorAt_7 rfl 1 rfl ?_
  refine zs_getI fl_X12_272 dX12_factorAt_8 (shm_0 hN) rfl ?_
  refine zs_iconst (v := (1 : Int32)) dX12_factorAt_11 ci_1 ?_
  refine zs_isub dX12_factorAt_12 ?_
  refine zs_icmp_eq (tgt := 26) dX12_factorAt_13 (by decide) ?_ ?_
  · refine zs_aload_n dX12_factorAt_26 rfl 1 rfl ?_
    refine zs_getR fl_X12_57 dX12_factorAt_27 (shm_0 hN) rfl ?_
    refine zs_iload_n dX12_factorAt_30 rfl 0 rfl ?_
    refine zs_ialdG dX12_factorAt_31 (shm_14 hN) ?_
    exact zs_iret dX12_factorAt_32 rfl rfl rfl
  · refine zs_aload_n dX12_factorAt_16 rfl 1 rfl ?_
    refine zs_getR fl_X12_13 dX12_factorAt_17 (shm_0 hN) rfl ?_
    refine zs_iconst (v := (2 : Int32)) dX12_factorAt_20 ci_2 ?_
    refine zs_ialdC dX12_factorAt_21 (shm_1 hN) vin_2_3531 clp_2 ?_
    refine zs_iconst (v := (1 : Int32)) dX12_factorAt_22 ci_1 ?_
    refine zs_icmp_ne (tgt := 33) dX12_factorAt_23 (by decide) ?_ ?_
    · refine zs_aload_n dX12_factorAt_33 rfl 1 rfl ?_
      refine zs_getR fl_X12_57 dX12_factorAt_34 (shm_0 hN) rfl ?_
      refine zs_iload_n dX12_factorAt_37 rfl 0 rfl ?_
      refine zs_iconst (v := (1 : Int32)) dX12_factorAt_38 ci_1 ?_
      refine zs_iadd dX12_factorAt_39 ?_
      refine zs_ialdG dX12_factorAt_40 (shm_14 hN) ?_
      refine zs_aload_n dX12_factorAt_41 rfl 1 rfl ?_
      refine zs_getR fl_X12_57 dX12_factorAt_42 (shm_0 hN) rfl ?_
      refine zs_iload_n dX12_factorAt_45 rfl 0 rfl ?_
      refine zs_ialdG dX12_factorAt_46 (shm_14 hN) ?_
      refine zs_isub dX12_factorAt_47 ?_
      refine zs_i2l dX12_factorAt_48 ?_
      refine zs_iload_n dX12_factorAt_49 rfl 2 rfl ?_
      refine zs_aload_n dX12_factorAt_50 rfl 1 rfl ?_
      refine zs_getR fl_X12_54 dX12_factorAt_51 (shm_0 hN) rfl ?_
      refine zs_iload_n dX12_factorAt_54 rfl 0 rfl ?_
      refine zs_ialdG dX12_factorAt_55 (shm_13 hN) ?_
      refine zs_isub dX12_factorAt_56 ?_
      refine zs_i2l dX12_factorAt_57 ?_
      refine zs_lmul dX12_factorAt_58 ?_
      refine zs_letJ (fun y2 => ?_)
      refine zs_lstore_n [(3, .long y2), (2, .int r1), (0, .ref (zz_a G 0)), (1, .int p1)] dX12_factorAt_59 rfl (Nat.le_of_ble_eq_true rfl) rfl ?_
      refine zs_aload_n dX12_factorAt_60 rfl 2 rfl ?_
      refine zs_getR fl_X12_57 dX12_factorAt_61 (shm_0 hN) rfl ?_
      refine zs_iload_n dX12_factorAt_64 rfl 1 rfl ?_
      refine zs_ialdG dX12_factorAt_65 (shm_14 hN) ?_
      refine zs_lload_n dX12_factorAt_66 rfl 0 rfl ?_
      refine zs_aload_n dX12_factorAt_67 rfl 2 rfl ?_
      refine zs_getR fl_X12_54 dX12_factorAt_68 (shm_0 hN) rfl ?_
      refine zs_iload_n dX12_factorAt_71 rfl 1 rfl ?_
      refine zs_iconst (v := (1 : Int32)) dX12_factorAt_72 ci_1 ?_
      refine zs_iadd dX12_factorAt_73 ?_
      refine zs_ialdG dX12_factorAt_74 (shm_13 hN) ?_
      refine zs_aload_n dX12_factorAt_75 rfl 2 rfl ?_
      refine zs_getR fl_X12_54 dX12_factorAt_76 (shm_0 hN) rfl ?_
      refine zs_iload_n dX12_factorAt_79 rfl 1 rfl ?_
      refine zs_ialdG dX12_factorAt_80 (shm_13 hN) ?_
      refine zs_isub dX12_factorAt_81 ?_
      refine zs_i2l dX12_factorAt_82 ?_
      refine zs_cS_jR (rest := [.int (m.1 14 r1.toNatClampNeg)]) (k_X12_floorOf hN _ _ _) dX12_factorAt_83 ls_X12_278 ok_X12_floorOf (Nat.le_of_ble_eq_true rfl) rfl rfl (Nat.le_of_ble_eq_true rfl) (fun r3 => ?_)
      refine zs_l2i dX12_factorAt_86 ?_
      refine zs_iadd dX12_factorAt_87 ?_
      exact zs_iret dX12_factorAt_88 rfl rfl rfl
    · refine zs_aload_n dX12_factorAt_26 rfl 1 rfl ?_
      refine zs_getR fl_X12_57 dX12_factorAt_27 (shm_0 hN) rfl ?_
      refine zs_iload_n dX12_factorAt_30 rfl 0 rfl ?_
      refine zs_ialdG dX12_factorAt_31 (shm_14 hN) ?_
      exact zs_iret dX12_factorAt_32 rfl rfl rfl
/-! X12_dueOf: PillarDeskModel.dueOf(II)J -/
theorem dX12_dueOf_0 : decode cX12_dueOf 0 = .ok (.aload_n 0, 1) := by decide +kernel
theorem dX12_dueOf_1 : decode cX12_dueOf 1 = .ok (.getfield 51, 3) := by decide +kernel
theorem dX12_dueOf_4 : decode cX12_dueOf 4 = .ok (.iload_n 1, 1) := by decide +kernel
theorem dX12_dueOf_5 : decode cX12_dueOf 5 = .ok (.iaload, 1) := by decide +kernel
theorem dX12_dueOf_6 : decode cX12_dueOf 6 = .ok (.i2l, 1) := by decide +kernel
theorem dX12_dueOf_7 : decode cX12_dueOf 7 = .ok (.iload_n 2, 1) := by decide +kernel
theorem dX12_dueOf_8 : decode cX12_dueOf 8 = .ok (.i2l, 1) := by decide +kernel
theorem dX12_dueOf_9 : decode cX12_dueOf 9 = .ok (.lmul, 1) := by decide +kernel
theorem dX12_dueOf_10 : decode cX12_dueOf 10 = .ok (.lreturn, 1) := by decide +kernel
def f_X12_dueOf (m : zz_Mem) (p1 : Int32) (p2 : Int32) : Option Int64 :=
  zz_ix p1 8 <|
  some (((m.1 12 p1.toNatClampNeg).toInt64) * p2.toInt64)
theorem k_X12_dueOf {l : Launch} {G : zz_G} (hN : 26 ≤ zz_N G) : ∀ (p1 : Int32) (p2 : Int32) (m : zz_Mem), zz_Con zz_shM l G mX12_dueOf 0 [.ref (zz_a G 0), .int p1, .int p2] zz_vJr (zz_mC m) (f_X12_dueOf m p1 p2) m := by
  intro p1 p2 m
  refine zz_con (lv := [(0, .ref (zz_a G 0)), (1, .int p1), (2, .int p2)]) (by decide +kernel) (Nat.le_of_ble_eq_true rfl) rfl ?_
  unfold f_X12_dueOf
  refine zs_aload_n dX12_dueOf_0 rfl 0 rfl ?_
  refine zs_getR fl_X12_51 dX12_dueOf_1 (shm_0 hN) rfl ?_
  refine zs_iload_n dX12_dueOf_4 rfl 1 rfl ?_
  refine zs_ialdG dX12_dueOf_5 (shm_12 hN) ?_
  refine zs_i2l dX12_dueOf_6 ?_
  refine zs_iload_n dX12_dueOf_7 rfl 2 rfl ?_
  refine zs_i2l dX12_dueOf_8 ?_
  refine zs_lmul dX12_dueOf_9 ?_
  exact zs_lret dX12_dueOf_10 rfl rfl rfl
/-! X12_fits: PillarDeskModel.fits(IJ)Z -/
theorem dX12_fits_0 : decode cX12_fits 0 = .ok (.ldc2_w 282, 3) := by decide +kernel
theorem dX12_fits_3 : decode cX12_fits 3 = .ok (.aload_n 0, 1) := by decide +kernel
theorem dX12_fits_4 : decode cX12_fits 4 = .ok (.iload_n 1, 1) := by decide +kernel
theorem dX12_fits_5 : decode cX12_fits 5 = .ok (.aload_n 0, 1) := by decide +kernel
theorem dX12_fits_6 : decode cX12_fits 6 = .ok (.getfield 39, 3) := by decide +kernel
theorem dX12_fits_9 : decode cX12_fits 9 = .ok (.iload_n 1, 1) := by decide +kernel
theorem dX12_fits_10 : decode cX12_fits 10 = .ok (.iaload, 1) := by decide +kernel
theorem dX12_fits_11 : decode cX12_fits 11 = .ok (.aload_n 0, 1) := by decide +kernel
theorem dX12_fits_12 : decode cX12_fits 12 = .ok (.getfield 36, 3) := by decide +kernel
theorem dX12_fits_15 : decode cX12_fits 15 = .ok (.iload_n 1, 1) := by decide +kernel
theorem dX12_fits_16 : decode cX12_fits 16 = .ok (.iaload, 1) := by decide +kernel
theorem dX12_fits_17 : decode cX12_fits 17 = .ok (.isub, 1) := by decide +kernel
theorem dX12_fits_18 : decode cX12_fits 18 = .ok (.invokevirtual 284, 3) := by decide +kernel
theorem dX12_fits_21 : decode cX12_fits 21 = .ok (.ladd, 1) := by decide +kernel
theorem dX12_fits_22 : decode cX12_fits 22 = .ok (.lstore 4, 2) := by decide +kernel
theorem dX12_fits_24 : decode cX12_fits 24 = .ok (.aload_n 0, 1) := by decide +kernel
theorem dX12_fits_25 : decode cX12_fits 25 = .ok (.getfield 13, 3) := by decide +kernel
theorem dX12_fits_28 : decode cX12_fits 28 = .ok (.bipush 24, 2) := by decide +kernel
theorem dX12_fits_30 : decode cX12_fits 30 = .ok (.iload_n 1, 1) := by decide +kernel
theorem dX12_fits_31 : decode cX12_fits 31 = .ok (.iadd, 1) := by decide +kernel
theorem dX12_fits_32 : decode cX12_fits 32 = .ok (.iaload, 1) := by decide +kernel
theorem dX12_fits_33 : decode cX12_fits 33 = .ok (.ifCond .ne 20, 3) := by decide +kernel
theorem dX12_fits_36 : decode cX12_fits 36 = .ok (.lload_n 2, 1) := by decide +kernel
theorem dX12_fits_37 : decode cX12_fits 37 = .ok (.lload 4, 2) := by decide +kernel
theorem dX12_fits_39 : decode cX12_fits 39 = .ok (.lmul, 1) := by decide +kernel
theorem dX12_fits_40 : decode cX12_fits 40 = .ok (.ldc2_w 288, 3) := by decide +kernel
theorem dX12_fits_43 : decode cX12_fits 43 = .ok (.lcmp, 1) := by decide +kernel
theorem dX12_fits_44 : decode cX12_fits 44 = .ok (.ifCond .gt 7, 3) := by decide +kernel
theorem dX12_fits_47 : decode cX12_fits 47 = .ok (.iconst 1, 1) := by decide +kernel
theorem dX12_fits_48 : decode cX12_fits 48 = .ok (.goto 4, 3) := by decide +kernel
theorem dX12_fits_51 : decode cX12_fits 51 = .ok (.iconst 0, 1) := by decide +kernel
theorem dX12_fits_52 : decode cX12_fits 52 = .ok (.ireturn, 1) := by decide +kernel
theorem dX12_fits_53 : decode cX12_fits 53 = .ok (.aload_n 0, 1) := by decide +kernel
theorem dX12_fits_54 : decode cX12_fits 54 = .ok (.getfield 13, 3) := by decide +kernel
theorem dX12_fits_57 : decode cX12_fits 57 = .ok (.bipush 24, 2) := by decide +kernel
theorem dX12_fits_59 : decode cX12_fits 59 = .ok (.iload_n 1, 1) := by decide +kernel
theorem dX12_fits_60 : decode cX12_fits 60 = .ok (.iadd, 1) := by decide +kernel
theorem dX12_fits_61 : decode cX12_fits 61 = .ok (.iaload, 1) := by decide +kernel
theorem dX12_fits_62 : decode cX12_fits 62 = .ok (.iconst 1, 1) := by decide +kernel
theorem dX12_fits_63 : decode cX12_fits 63 = .ok (.if_icmp .ne 32, 3) := by decide +kernel
theorem dX12_fits_66 : decode cX12_fits 66 = .ok (.lload_n 2, 1) := by decide +kernel
theorem dX12_fits_67 : decode cX12_fits 67 = .ok (.lload 4, 2) := by decide +kernel
theorem dX12_fits_69 : decode cX12_fits 69 = .ok (.lmul, 1) := by decide +kernel
theorem dX12_fits_70 : decode cX12_fits 70 = .ok (.ldc2_w 282, 3) := by decide +kernel
theorem dX12_fits_73 : decode cX12_fits 73 = .ok (.aload_n 0, 1) := by decide +kernel
theorem dX12_fits_74 : decode cX12_fits 74 = .ok (.aload_n 0, 1) := by decide +kernel
theorem dX12_fits_75 : decode cX12_fits 75 = .ok (.getfield 36, 3) := by decide +kernel
theorem dX12_fits_78 : decode cX12_fits 78 = .ok (.iload_n 1, 1) := by decide +kernel
theorem dX12_fits_79 : decode cX12_fits 79 = .ok (.iaload, 1) := by decide +kernel
theorem dX12_fits_80 : decode cX12_fits 80 = .ok (.invokevirtual 290, 3) := by decide +kernel
theorem dX12_fits_83 : decode cX12_fits 83 = .ok (.i2l, 1) := by decide +kernel
theorem dX12_fits_84 : decode cX12_fits 84 = .ok (.lmul, 1) := by decide +kernel
theorem dX12_fits_85 : decode cX12_fits 85 = .ok (.lcmp, 1) := by decide +kernel
theorem dX12_fits_86 : decode cX12_fits 86 = .ok (.ifCond .gt 7, 3) := by decide +kernel
theorem dX12_fits_89 : decode cX12_fits 89 = .ok (.iconst 1, 1) := by decide +kernel
theorem dX12_fits_90 : decode cX12_fits 90 = .ok (.goto 4, 3) := by decide +kernel
theorem dX12_fits_93 : decode cX12_fits 93 = .ok (.iconst 0, 1) := by decide +kernel
theorem dX12_fits_94 : decode cX12_fits 94 = .ok (.ireturn, 1) := by decide +kernel
theorem dX12_fits_95 : decode cX12_fits 95 = .ok (.lconst 0, 1) := by decide +kernel
theorem dX12_fits_96 : decode cX12_fits 96 = .ok (.lstore 6, 2) := by decide +kernel
theorem dX12_fits_98 : decode cX12_fits 98 = .ok (.iconst 0, 1) := by decide +kernel
theorem dX12_fits_99 : decode cX12_fits 99 = .ok (.istore 8, 2) := by decide +kernel
theorem dX12_fits_101 : decode cX12_fits 101 = .ok (.iload 8, 2) := by decide +kernel
theorem dX12_fits_103 : decode cX12_fits 103 = .ok (.aload_n 0, 1) := by decide +kernel
theorem dX12_fits_104 : decode cX12_fits 104 = .ok (.getfield 45, 3) := by decide +kernel
theorem dX12_fits_107 : decode cX12_fits 107 = .ok (.iload_n 1, 1) := by decide +kernel
theorem dX12_fits_108 : decode cX12_fits 108 = .ok (.iaload, 1) := by decide +kernel
theorem dX12_fits_109 : decode cX12_fits 109 = .ok (.if_icmp .ge 39, 3) := by decide +kernel
theorem dX12_fits_112 : decode cX12_fits 112 = .ok (.lload 6, 2) := by decide +kernel
theorem dX12_fits_114 : decode cX12_fits 114 = .ok (.aload_n 0, 1) := by decide +kernel
theorem dX12_fits_115 : decode cX12_fits 115 = .ok (.iload_n 1, 1) := by decide +kernel
theorem dX12_fits_116 : decode cX12_fits 116 = .ok (.aload_n 0, 1) := by decide +kernel
theorem dX12_fits_117 : decode cX12_fits 117 = .ok (.iload_n 1, 1) := by decide +kernel
theorem dX12_fits_118 : decode cX12_fits 118 = .ok (.iload 8, 2) := by decide +kernel
theorem dX12_fits_120 : decode cX12_fits 120 = .ok (.invokevirtual 293, 3) := by decide +kernel
theorem dX12_fits_123 : decode cX12_fits 123 = .ok (.invokevirtual 284, 3) := by decide +kernel
theorem dX12_fits_126 : decode cX12_fits 126 = .ok (.aload_n 0, 1) := by decide +kernel
theorem dX12_fits_127 : decode cX12_fits 127 = .ok (.aload_n 0, 1) := by decide +kernel
theorem dX12_fits_128 : decode cX12_fits 128 = .ok (.iload_n 1, 1) := by decide +kernel
theorem dX12_fits_129 : decode cX12_fits 129 = .ok (.iload 8, 2) := by decide +kernel
theorem dX12_fits_131 : decode cX12_fits 131 = .ok (.invokevirtual 251, 3) := by decide +kernel
theorem dX12_fits_134 : decode cX12_fits 134 = .ok (.invokevirtual 290, 3) := by decide +kernel
theorem dX12_fits_137 : decode cX12_fits 137 = .ok (.i2l, 1) := by decide +kernel
theorem dX12_fits_138 : decode cX12_fits 138 = .ok (.lmul, 1) := by decide +kernel
theorem dX12_fits_139 : decode cX12_fits 139 = .ok (.ladd, 1) := by decide +kernel
theorem dX12_fits_140 : decode cX12_fits 140 = .ok (.lstore 6, 2) := by decide +kernel
theorem dX12_fits_142 : decode cX12_fits 142 = .ok (.iinc 8 1, 3) := by decide +kernel
theorem dX12_fits_145 : decode cX12_fits 145 = .ok (.goto (-44), 3) := by decide +kernel
theorem dX12_fits_148 : decode cX12_fits 148 = .ok (.lload_n 2, 1) := by decide +kernel
theorem dX12_fits_149 : decode cX12_fits 149 = .ok (.lload 6, 2) := by decide +kernel
theorem dX12_fits_151 : decode cX12_fits 151 = .ok (.ldc2_w 282, 3) := by decide +kernel
theorem dX12_fits_154 : decode cX12_fits 154 = .ok (.ldiv, 1) := by decide +kernel
theorem dX12_fits_155 : decode cX12_fits 155 = .ok (.ladd, 1) := by decide +kernel
theorem dX12_fits_156 : decode cX12_fits 156 = .ok (.ldc2_w 296, 3) := by decide +kernel
theorem dX12_fits_159 : decode cX12_fits 159 = .ok (.lcmp, 1) := by decide +kernel
theorem dX12_fits_160 : decode cX12_fits 160 = .ok (.ifCond .gt 7, 3) := by decide +kernel
theorem dX12_fits_163 : decode cX12_fits 163 = .ok (.iconst 1, 1) := by decide +kernel
theorem dX12_fits_164 : decode cX12_fits 164 = .ok (.goto 4, 3) := by decide +kernel
theorem dX12_fits_167 : decode cX12_fits 167 = .ok (.iconst 0, 1) := by decide +kernel
theorem dX12_fits_168 : decode cX12_fits 168 = .ok (.ireturn, 1) := by decide +kernel
def f_X12_fits_148 (m : zz_Mem)  (v2 : Int64) (v6 : Int64) : Option Int32 :=
  if (1000000000 : Int64) < (v2 + (v6 / (3600000 : Int64))) then (
  some (0 : Int32))
  else (
  some (1 : Int32))
theorem t_X12_fits_148 {l : Launch} {G : zz_G} (hN : 26 ≤ zz_N G) {m : zz_Mem}  : ∀ (v2 : Int64) (v6 : Int64), zz_Sim zz_shM l G mX12_fits 2 zz_vIr (zz_mC m) (f_X12_fits_148 m v2 v6) 148 [(2, .long v2), (6, .long v6)] [] m := by
  intro v2 v6
  unfold f_X12_fits_148
  refine zs_lload_n dX12_fits_148 rfl 0 rfl ?_
  refine zs_lload dX12_fits_149 1 rfl ?_
  refine zs_ldc2 (v := (3600000 : Int64)) dX12_fits_151 kc_X12_282 ?_
  refine zs_ldiv dX12_fits_154 (by decide) ?_
  refine zs_ladd dX12_fits_155 ?_
  refine zs_ldc2 (v := (1000000000 : Int64)) dX12_fits_156 kc_X12_296 ?_
  refine zs_lcmp_gt (tgt := 167) dX12_fits_159 dX12_fits_160 (by decide) ?_ ?_
  · refine zs_iconst (v := (0 : Int32)) dX12_fits_167 ci_0 ?_
    exact zs_zret dX12_fits_168 rfl rfl rfl rfl
  · refine zs_iconst (v := (1 : Int32)) dX12_fits_163 ci_1 ?_
    refine zs_goto (tgt := 168) dX12_fits_164 (by decide) ?_
    exact zs_zret dX12_fits_168 rfl rfl rfl rfl
def f_X12_fits_101 (m : zz_Mem)  : Nat → Int32 → Int64 → Int64 → Int32 → Option Int32
  | 0, _, _, _, _ => none
  | n + 1, v1, v2, v6, v8 =>
  zz_ix v1 8 <|
  if (m.1 10 v1.toNatClampNeg) ≤ v8 then (
  f_X12_fits_148 m v2 v6)
  else (
  zz_bndR (f_X12_lengthOf m v1 v8) fun r1 =>
  zz_bndR (f_X12_dueOf m v1 r1) fun r2 =>
  zz_bndR (f_X12_endOf m v1 v8) fun r3 =>
  zz_bndR (f_X12_factorAt m r3) fun r4 =>
  zz_letJ (v6 + (r2 * r4.toInt64)) fun y5 =>
  zz_letI (v8 + (1 : Int32)) fun x6 =>
  f_X12_fits_101 m n v1 v2 y5 x6)
theorem t_X12_fits_101 {l : Launch} {G : zz_G} (hN : 26 ≤ zz_N G) {m : zz_Mem}  : ∀ (n : Nat) (v1 : Int32) (v2 : Int64) (v6 : Int64) (v8 : Int32), zz_Sim zz_shM l G mX12_fits 2 zz_vIr (zz_mC m) (f_X12_fits_101 m n v1 v2 v6 v8) 101 [(0, .ref (zz_a G 0)), (1, .int v1), (2, .long v2), (6, .long v6), (8, .int v8)] [] m := by
  intro n
  induction n with
  | zero => intro _ _ _ _; exact zs_none
  | succ n ih =>
    intro v1 v2 v6 v8
    rw [f_X12_fits_101]
    refine zs_iload dX12_fits_101 4 rfl ?_
    refine zs_aload_n dX12_fits_103 rfl 0 rfl ?_
    refine zs_getR fl_X12_45 dX12_fits_104 (shm_0 hN) rfl ?_
    refine zs_iload_n dX12_fits_107 rfl 1 rfl ?_
    refine zs_ialdG dX12_fits_108 (shm_10 hN) ?_
    refine zs_icmp_ge (tgt := 148) dX12_fits_109 (by decide) ?_ ?_
    · refine zs_sub [2, 3] rfl ?_
      exact t_X12_fits_148 hN _ _
    · refine zs_lload dX12_fits_112 3 rfl ?_
      refine zs_aload_n dX12_fits_114 rfl 0 rfl ?_
      refine zs_iload_n dX12_fits_115 rfl 1 rfl ?_
      refine zs_aload_n dX12_fits_116 rfl 0 rfl ?_
      refine zs_iload_n dX12_fits_117 rfl 1 rfl ?_
      refine zs_iload dX12_fits_118 4 rfl ?_
      refine zs_cV_iR (rest := [.int v1, .ref (zz_a G 0), .long v6]) (k_X12_lengthOf hN _ _ _) dX12_fits_120 lv_X12_293 ok_X12_lengthOf (zz_rcv_o (shm_0 hN) rfl) (Nat.le_of_ble_eq_true rfl) rfl rfl (Nat.le_of_ble_eq_true rfl) (fun r1 => ?_)
      refine zs_cV_jR (rest := [.long v6]) (k_X12_dueOf hN _ _ _) dX12_fits_123 lv_X12_284 ok_X12_dueOf (zz_rcv_o (shm_0 hN) rfl) (Nat.le_of_ble_eq_true rfl) rfl rfl (Nat.le_of_ble_eq_true rfl) (fun r2 => ?_)
      refine zs_aload_n dX12_fits_126 rfl 0 rfl ?_
      refine zs_aload_n dX12_fits_127 rfl 0 rfl ?_
      refine zs_iload_n dX12_fits_128 rfl 1 rfl ?_
      refine zs_iload dX12_fits_129 4 rfl ?_
      refine zs_cV_iR (rest := [.ref (zz_a G 0), .long r2, .long v6]) (k_X12_endOf hN _ _ _) dX12_fits_131 lv_X12_251 ok_X12_endOf (zz_rcv_o (shm_0 hN) rfl) (Nat.le_of_ble_eq_true rfl) rfl rfl (Nat.le_of_ble_eq_true rfl) (fun r3 => ?_)
      refine zs_cV_iR (rest := [.long r2, .long v6]) (k_X12_factorAt hN _ _) dX12_fits_134 lv_X12_290 ok_X12_factorAt (zz_rcv_o (shm_0 hN) rfl) (Nat.le_of_ble_eq_true rfl) rfl rfl (Nat.le_of_ble_eq_true rfl) (fun r4 => ?_)
      refine zs_i2l dX12_fits_137 ?_
      refine zs_lmul dX12_fits_138 ?_
      refine zs_ladd dX12_fits_139 ?_
      refine zs_letJ (fun y5 => ?_)
      refine zs_lstore [(6, .long y5), (0, .ref (zz_a G 0)), (1, .int v1), (2, .long v2), (8, .int v8)] dX12_fits_140 (Nat.le_of_ble_eq_true rfl) rfl ?_
      refine zs_iinc (fun y => [(8, .int y), (6, .long y5), (0, .ref (zz_a G 0)), (1, .int v1), (2, .long v2)]) dX12_fits_142 4 rfl ci_1 (Nat.le_of_ble_eq_true rfl) (fun _ => rfl) (fun x6 => ?_)
      refine zs_goto (tgt := 101) dX12_fits_145 (by decide) ?_
      refine zs_sub [2, 3, 4, 1, 0] rfl ?_
      exact ih _ _ _ _
def f_X12_fits (m : zz_Mem) (p1 : Int32) (p2 : Int64) : Option Int32 :=
  zz_ix p1 8 <|
  zz_ix p1 8 <|
  zz_bndR (f_X12_dueOf m p1 ((m.1 8 p1.toNatClampNeg) - (m.1 7 p1.toNatClampNeg))) fun r1 =>
  zz_letJ ((3600000 : Int64) + r1) fun y2 =>
  zz_ix ((24 : Int32) + p1) 3531 <|
  if (m.1 1 ((24 : Int32) + p1).toNatClampNeg) = 0 then (
  if (3600000000000000 : Int64) < (p2 * y2) then (
  some (0 : Int32))
  else (
  some (1 : Int32)))
  else (
  zz_ix ((24 : Int32) + p1) 3531 <|
  if (m.1 1 ((24 : Int32) + p1).toNatClampNeg) = (1 : Int32) then (
  zz_ix p1 8 <|
  zz_bndR (f_X12_factorAt m (m.1 7 p1.toNatClampNeg)) fun r3 =>
  if ((3600000 : Int64) * r3.toInt64) < (p2 * y2) then (
  some (0 : Int32))
  else (
  some (1 : Int32)))
  else (
  f_X12_fits_101 m zz_fuel p1 p2 (0 : Int64) (0 : Int32)))
theorem k_X12_fits {l : Launch} {G : zz_G} (hN : 26 ≤ zz_N G) : ∀ (p1 : Int32) (p2 : Int64) (m : zz_Mem), zz_Con zz_shM l G mX12_fits 2 [.ref (zz_a G 0), .int p1, .long p2] zz_vIr (zz_mC m) (f_X12_fits m p1 p2) m := by
  intro p1 p2 m
  refine zz_con (lv := [(0, .ref (zz_a G 0)), (1, .int p1), (2, .long p2)]) (by decide +kernel) (Nat.le_of_ble_eq_true rfl) rfl ?_
  unfold f_X12_fits
  refine zs_ldc2 (v := (3600000 : Int64)) dX12_fits_0 kc_X12_282 ?_
  refine zs_aload_n dX12_fits_3 rfl 0 rfl ?_
  refine zs_iload_n dX12_fits_4 rfl 1 rfl ?_
  refine zs_aload_n dX12_fits_5 rfl 0 rfl ?_
  refine zs_getR fl_X12_39 dX12_fits_6 (shm_0 hN) rfl ?_
  refine zs_iload_n dX12_fits_9 rfl 1 rfl ?_
  refine zs_ialdG dX12_fits_10 (shm_8 hN) ?_
  refine zs_aload_n dX12_fits_11 rfl 0 rfl ?_
  refine zs_getR fl_X12_36 dX12_fits_12 (shm_0 hN) rfl ?_
  refine zs_iload_n dX12_fits_15 rfl 1 rfl ?_
  refine zs_ialdG dX12_fits_16 (shm_7 hN) ?_
  refine zs_isub dX12_fits_17 ?_
  refine zs_cV_jR (rest := [.long (3600000 : Int64)]) (k_X12_dueOf hN _ _ _) dX12_fits_18 lv_X12_284 ok_X12_dueOf (zz_rcv_o (shm_0 hN) rfl) (Nat.le_of_ble_eq_true rfl) rfl rfl (Nat.le_of_ble_eq_true rfl) (fun r1 => ?_)
  refine zs_ladd dX12_fits_21 ?_
  refine zs_letJ (fun y2 => ?_)
  refine zs_lstore [(4, .long y2), (0, .ref (zz_a G 0)), (1, .int p1), (2, .long p2)] dX12_fits_22 (Nat.le_of_ble_eq_true rfl) rfl ?_
  refine zs_aload_n dX12_fits_24 rfl 1 rfl ?_
  refine zs_getR fl_X12_13 dX12_fits_25 (shm_0 hN) rfl ?_
  refine zs_bipush (v := (24 : Int32)) dX12_fits_28 cb_24 ?_
  refine zs_iload_n dX12_fits_30 rfl 2 rfl ?_
  refine zs_iadd dX12_fits_31 ?_
  refine zs_ialdG dX12_fits_32 (shm_1 hN) ?_
  refine zs_if_ne (tgt := 53) dX12_fits_33 (by decide) ?_ ?_
  · refine zs_aload_n dX12_fits_53 rfl 1 rfl ?_
    refine zs_getR fl_X12_13 dX12_fits_54 (shm_0 hN) rfl ?_
    refine zs_bipush (v := (24 : Int32)) dX12_fits_57 cb_24 ?_
    refine zs_iload_n dX12_fits_59 rfl 2 rfl ?_
    refine zs_iadd dX12_fits_60 ?_
    refine zs_ialdG dX12_fits_61 (shm_1 hN) ?_
    refine zs_iconst (v := (1 : Int32)) dX12_fits_62 ci_1 ?_
    refine zs_icmp_ne (tgt := 95) dX12_fits_63 (by decide) ?_ ?_
    · refine zs_lconst (v := (0 : Int64)) dX12_fits_95 rfl ?_
      refine zs_lstore [(6, .long (0 : Int64)), (4, .long y2), (0, .ref (zz_a G 0)), (1, .int p1), (2, .long p2)] dX12_fits_96 (Nat.le_of_ble_eq_true rfl) rfl ?_
      refine zs_iconst (v := (0 : Int32)) dX12_fits_98 ci_0 ?_
      refine zs_istore [(8, .int (0 : Int32)), (6, .long (0 : Int64)), (4, .long y2), (0, .ref (zz_a G 0)), (1, .int p1), (2, .long p2)] dX12_fits_99 (Nat.le_of_ble_eq_true rfl) rfl ?_
      refine zs_sub [3, 4, 5, 1, 0] rfl ?_
      exact t_X12_fits_101 hN zz_fuel _ _ _ _
    · refine zs_lload_n dX12_fits_66 rfl 3 rfl ?_
      refine zs_lload dX12_fits_67 0 rfl ?_
      refine zs_lmul dX12_fits_69 ?_
      refine zs_ldc2 (v := (3600000 : Int64)) dX12_fits_70 kc_X12_282 ?_
      refine zs_aload_n dX12_fits_73 rfl 1 rfl ?_
      refine zs_aload_n dX12_fits_74 rfl 1 rfl ?_
      refine zs_getR fl_X12_36 dX12_fits_75 (shm_0 hN) rfl ?_
      refine zs_iload_n dX12_fits_78 rfl 2 rfl ?_
      refine zs_ialdG dX12_fits_79 (shm_7 hN) ?_
      refine zs_cV_iR (rest := [.long (3600000 : Int64), .long (p2 * y2)]) (k_X12_factorAt hN _ _) dX12_fits_80 lv_X12_290 ok_X12_factorAt (zz_rcv_o (shm_0 hN) rfl) (Nat.le_of_ble_eq_true rfl) rfl rfl (Nat.le_of_ble_eq_true rfl) (fun r3 => ?_)
      refine zs_i2l dX12_fits_83 ?_
      refine zs_lmul dX12_fits_84 ?_
      refine zs_lcmp_gt (tgt := 93) dX12_fits_85 dX12_fits_86 (by decide) ?_ ?_
      · refine zs_iconst (v := (0 : Int32)) dX12_fits_93 ci_0 ?_
        exact zs_zret dX12_fits_94 rfl rfl rfl rfl
      · refine zs_iconst (v := (1 : Int32)) dX12_fits_89 ci_1 ?_
        refine zs_goto (tgt := 94) dX12_fits_90 (by decide) ?_
        exact zs_zret dX12_fits_94 rfl rfl rfl rfl
  · refine zs_lload_n dX12_fits_36 rfl 3 rfl ?_
    refine zs_lload dX12_fits_37 0 rfl ?_
    refine zs_lmul dX12_fits_39 ?_
    refine zs_ldc2 (v := (3600000000000000 : Int64)) dX12_fits_40 kc_X12_288 ?_
    refine zs_lcmp_gt (tgt := 51) dX12_fits_43 dX12_fits_44 (by decide) ?_ ?_
    · refine zs_iconst (v := (0 : Int32)) dX12_fits_51 ci_0 ?_
      exact zs_zret dX12_fits_52 rfl rfl rfl rfl
    · refine zs_iconst (v := (1 : Int32)) dX12_fits_47 ci_1 ?_
      refine zs_goto (tgt := 52) dX12_fits_48 (by decide) ?_
      exact zs_zret dX12_fits_52 rfl rfl rfl rfl
/-! X12_solves: PillarDeskModel.solves(I)V -/
theorem dX12_solves_0 : decode cX12_solves 0 = .ok (.aload_n 0, 1) := by decide +kernel
theorem dX12_solves_1 : decode cX12_solves 1 = .ok (.getfield 272, 3) := by decide +kernel
theorem dX12_solves_4 : decode cX12_solves 4 = .ok (.istore_n 2, 1) := by decide +kernel
theorem dX12_solves_5 : decode cX12_solves 5 = .ok (.aload_n 0, 1) := by decide +kernel
theorem dX12_solves_6 : decode cX12_solves 6 = .ok (.dup, 1) := by decide +kernel
theorem dX12_solves_7 : decode cX12_solves 7 = .ok (.getfield 272, 3) := by decide +kernel
theorem dX12_solves_10 : decode cX12_solves 10 = .ok (.iconst 1, 1) := by decide +kernel
theorem dX12_solves_11 : decode cX12_solves 11 = .ok (.iadd, 1) := by decide +kernel
theorem dX12_solves_12 : decode cX12_solves 12 = .ok (.putfield 272, 3) := by decide +kernel
theorem dX12_solves_15 : decode cX12_solves 15 = .ok (.aload_n 0, 1) := by decide +kernel
theorem dX12_solves_16 : decode cX12_solves 16 = .ok (.getfield 54, 3) := by decide +kernel
theorem dX12_solves_19 : decode cX12_solves 19 = .ok (.iload_n 2, 1) := by decide +kernel
theorem dX12_solves_20 : decode cX12_solves 20 = .ok (.aload_n 0, 1) := by decide +kernel
theorem dX12_solves_21 : decode cX12_solves 21 = .ok (.getfield 39, 3) := by decide +kernel
theorem dX12_solves_24 : decode cX12_solves 24 = .ok (.iload_n 1, 1) := by decide +kernel
theorem dX12_solves_25 : decode cX12_solves 25 = .ok (.iaload, 1) := by decide +kernel
theorem dX12_solves_26 : decode cX12_solves 26 = .ok (.iastore, 1) := by decide +kernel
theorem dX12_solves_27 : decode cX12_solves 27 = .ok (.aload_n 0, 1) := by decide +kernel
theorem dX12_solves_28 : decode cX12_solves 28 = .ok (.getfield 60, 3) := by decide +kernel
theorem dX12_solves_31 : decode cX12_solves 31 = .ok (.iload_n 2, 1) := by decide +kernel
theorem dX12_solves_32 : decode cX12_solves 32 = .ok (.iload_n 1, 1) := by decide +kernel
theorem dX12_solves_33 : decode cX12_solves 33 = .ok (.iastore, 1) := by decide +kernel
theorem dX12_solves_34 : decode cX12_solves 34 = .ok (.iconst 0, 1) := by decide +kernel
theorem dX12_solves_35 : decode cX12_solves 35 = .ok (.istore_n 3, 1) := by decide +kernel
theorem dX12_solves_36 : decode cX12_solves 36 = .ok (.ldc_w 298, 3) := by decide +kernel
theorem dX12_solves_39 : decode cX12_solves 39 = .ok (.istore 4, 2) := by decide +kernel
theorem dX12_solves_41 : decode cX12_solves 41 = .ok (.iload_n 3, 1) := by decide +kernel
theorem dX12_solves_42 : decode cX12_solves 42 = .ok (.iload 4, 2) := by decide +kernel
theorem dX12_solves_44 : decode cX12_solves 44 = .ok (.if_icmp .ge 49, 3) := by decide +kernel
theorem dX12_solves_47 : decode cX12_solves 47 = .ok (.iload_n 3, 1) := by decide +kernel
theorem dX12_solves_48 : decode cX12_solves 48 = .ok (.iload 4, 2) := by decide +kernel
theorem dX12_solves_50 : decode cX12_solves 50 = .ok (.iload_n 3, 1) := by decide +kernel
theorem dX12_solves_51 : decode cX12_solves 51 = .ok (.isub, 1) := by decide +kernel
theorem dX12_solves_52 : decode cX12_solves 52 = .ok (.iconst 1, 1) := by decide +kernel
theorem dX12_solves_53 : decode cX12_solves 53 = .ok (.iadd, 1) := by decide +kernel
theorem dX12_solves_54 : decode cX12_solves 54 = .ok (.iconst 2, 1) := by decide +kernel
theorem dX12_solves_55 : decode cX12_solves 55 = .ok (.idiv, 1) := by decide +kernel
theorem dX12_solves_56 : decode cX12_solves 56 = .ok (.iadd, 1) := by decide +kernel
theorem dX12_solves_57 : decode cX12_solves 57 = .ok (.istore 5, 2) := by decide +kernel
theorem dX12_solves_59 : decode cX12_solves 59 = .ok (.aload_n 0, 1) := by decide +kernel
theorem dX12_solves_60 : decode cX12_solves 60 = .ok (.getfield 57, 3) := by decide +kernel
theorem dX12_solves_63 : decode cX12_solves 63 = .ok (.iload_n 2, 1) := by decide +kernel
theorem dX12_solves_64 : decode cX12_solves 64 = .ok (.iload 5, 2) := by decide +kernel
theorem dX12_solves_66 : decode cX12_solves 66 = .ok (.iastore, 1) := by decide +kernel
theorem dX12_solves_67 : decode cX12_solves 67 = .ok (.aload_n 0, 1) := by decide +kernel
theorem dX12_solves_68 : decode cX12_solves 68 = .ok (.iload_n 1, 1) := by decide +kernel
theorem dX12_solves_69 : decode cX12_solves 69 = .ok (.iload 5, 2) := by decide +kernel
theorem dX12_solves_71 : decode cX12_solves 71 = .ok (.i2l, 1) := by decide +kernel
theorem dX12_solves_72 : decode cX12_solves 72 = .ok (.invokevirtual 299, 3) := by decide +kernel
theorem dX12_solves_75 : decode cX12_solves 75 = .ok (.ifCond .eq 9, 3) := by decide +kernel
theorem dX12_solves_78 : decode cX12_solves 78 = .ok (.iload 5, 2) := by decide +kernel
theorem dX12_solves_80 : decode cX12_solves 80 = .ok (.istore_n 3, 1) := by decide +kernel
theorem dX12_solves_81 : decode cX12_solves 81 = .ok (.goto 9, 3) := by decide +kernel
theorem dX12_solves_84 : decode cX12_solves 84 = .ok (.iload 5, 2) := by decide +kernel
theorem dX12_solves_86 : decode cX12_solves 86 = .ok (.iconst 1, 1) := by decide +kernel
theorem dX12_solves_87 : decode cX12_solves 87 = .ok (.isub, 1) := by decide +kernel
theorem dX12_solves_88 : decode cX12_solves 88 = .ok (.istore 4, 2) := by decide +kernel
theorem dX12_solves_90 : decode cX12_solves 90 = .ok (.goto (-49), 3) := by decide +kernel
theorem dX12_solves_93 : decode cX12_solves 93 = .ok (.aload_n 0, 1) := by decide +kernel
theorem dX12_solves_94 : decode cX12_solves 94 = .ok (.getfield 57, 3) := by decide +kernel
theorem dX12_solves_97 : decode cX12_solves 97 = .ok (.iload_n 2, 1) := by decide +kernel
theorem dX12_solves_98 : decode cX12_solves 98 = .ok (.iload_n 3, 1) := by decide +kernel
theorem dX12_solves_99 : decode cX12_solves 99 = .ok (.iastore, 1) := by decide +kernel
theorem dX12_solves_100 : decode cX12_solves 100 = .ok (.return_, 1) := by decide +kernel
def f_X12_solves_93   (v2 : Int32) (v3 : Int32) (m : zz_Mem) : Option zz_Mem :=
  zz_ix v2 9 <| zz_letM (zz_setI m 14 v2.toNatClampNeg v3) fun m1 =>
  some m1
theorem t_X12_solves_93 {l : Launch} {G : zz_G} (hN : 26 ≤ zz_N G)  : ∀ (v2 : Int32) (v3 : Int32) (m : zz_Mem), zz_Sim zz_shM l G mX12_solves 3 zz_vV zz_mV (f_X12_solves_93 v2 v3 m) 93 [(0, .ref (zz_a G 0)), (2, .int v2), (3, .int v3)] [] m := by
  intro v2 v3 m
  unfold f_X12_solves_93
  refine zs_aload_n dX12_solves_93 rfl 0 rfl ?_
  refine zs_getR fl_X12_57 dX12_solves_94 (shm_0 hN) rfl ?_
  refine zs_iload_n dX12_solves_97 rfl 1 rfl ?_
  refine zs_iload_n dX12_solves_98 rfl 2 rfl ?_
  refine zs_iastG dX12_solves_99 (shm_14 hN) (fun m1 => ?_)
  exact zs_vret dX12_solves_100 rfl rfl rfl
def f_X12_solves_41   : Nat → Int32 → Int32 → Int32 → Int32 → zz_Mem → Option zz_Mem
  | 0, _, _, _, _, _ => none
  | n + 1, v1, v2, v3, v4, m =>
  if v4 ≤ v3 then (
  f_X12_solves_93 v2 v3 m)
  else (
  zz_letI (v3 + (((v4 - v3) + (1 : Int32)) / (2 : Int32))) fun x1 =>
  zz_ix v2 9 <| zz_letM (zz_setI m 14 v2.toNatClampNeg x1) fun m2 =>
  zz_bndR (f_X12_fits m2 v1 x1.toInt64) fun r3 =>
  if r3 = 0 then (
  zz_letI (x1 - (1 : Int32)) fun x4 =>
  f_X12_solves_41 n v1 v2 v3 x4 m2)
  else (
  f_X12_solves_41 n v1 v2 x1 v4 m2))
theorem t_X12_solves_41 {l : Launch} {G : zz_G} (hN : 26 ≤ zz_N G)  : ∀ (n : Nat) (v1 : Int32) (v2 : Int32) (v3 : Int32) (v4 : Int32) (m : zz_Mem), zz_Sim zz_shM l G mX12_solves 3 zz_vV zz_mV (f_X12_solves_41 n v1 v2 v3 v4 m) 41 [(0, .ref (zz_a G 0)), (1, .int v1), (2, .int v2), (3, .int v3), (4, .int v4)] [] m := by
  intro n
  induction n with
  | zero => intro _ _ _ _ _; exact zs_none
  | succ n ih =>
    intro v1 v2 v3 v4 m
    rw [f_X12_solves_41]
    refine zs_iload_n dX12_solves_41 rfl 3 rfl ?_
    refine zs_iload dX12_solves_42 4 rfl ?_
    refine zs_icmp_ge (tgt := 93) dX12_solves_44 (by decide) ?_ ?_
    · refine zs_sub [0, 2, 3] rfl ?_
      exact t_X12_solves_93 hN _ _ _
    · refine zs_iload_n dX12_solves_47 rfl 3 rfl ?_
      refine zs_iload dX12_solves_48 4 rfl ?_
      refine zs_iload_n dX12_solves_50 rfl 3 rfl ?_
      refine zs_isub dX12_solves_51 ?_
      refine zs_iconst (v := (1 : Int32)) dX12_solves_52 ci_1 ?_
      refine zs_iadd dX12_solves_53 ?_
      refine zs_iconst (v := (2 : Int32)) dX12_solves_54 ci_2 ?_
      refine zs_idiv dX12_solves_55 (by decide) ?_
      refine zs_iadd dX12_solves_56 ?_
      refine zs_letI (fun x1 => ?_)
      refine zs_istore [(5, .int x1), (0, .ref (zz_a G 0)), (1, .int v1), (2, .int v2), (3, .int v3), (4, .int v4)] dX12_solves_57 (Nat.le_of_ble_eq_true rfl) rfl ?_
      refine zs_aload_n dX12_solves_59 rfl 1 rfl ?_
      refine zs_getR fl_X12_57 dX12_solves_60 (shm_0 hN) rfl ?_
      refine zs_iload_n dX12_solves_63 rfl 3 rfl ?_
      refine zs_iload dX12_solves_64 0 rfl ?_
      refine zs_iastG dX12_solves_66 (shm_14 hN) (fun m2 => ?_)
      refine zs_aload_n dX12_solves_67 rfl 1 rfl ?_
      refine zs_iload_n dX12_solves_68 rfl 2 rfl ?_
      refine zs_iload dX12_solves_69 0 rfl ?_
      refine zs_i2l dX12_solves_71 ?_
      refine zs_cV_iR (rest := []) (k_X12_fits hN _ _ _) dX12_solves_72 lv_X12_299 ok_X12_fits (zz_rcv_o (shm_0 hN) rfl) (Nat.le_of_ble_eq_true rfl) rfl rfl (Nat.le_of_ble_eq_true rfl) (fun r3 => ?_)
      refine zs_if_eq (tgt := 84) dX12_solves_75 (by decide) ?_ ?_
      · refine zs_iload dX12_solves_84 0 rfl ?_
        refine zs_iconst (v := (1 : Int32)) dX12_solves_86 ci_1 ?_
        refine zs_isub dX12_solves_87 ?_
        refine zs_letI (fun x4 => ?_)
        refine zs_istore [(4, .int x4), (5, .int x1), (0, .ref (zz_a G 0)), (1, .int v1), (2, .int v2), (3, .int v3)] dX12_solves_88 (Nat.le_of_ble_eq_true rfl) rfl ?_
        refine zs_goto (tgt := 41) dX12_solves_90 (by decide) ?_
        refine zs_sub [2, 3, 4, 5, 0] rfl ?_
        exact ih _ _ _ _ _
      · refine zs_iload dX12_solves_78 0 rfl ?_
        refine zs_istore_n [(3, .int x1), (5, .int x1), (0, .ref (zz_a G 0)), (1, .int v1), (2, .int v2), (4, .int v4)] dX12_solves_80 rfl (Nat.le_of_ble_eq_true rfl) rfl ?_
        refine zs_goto (tgt := 90) dX12_solves_81 (by decide) ?_
        refine zs_goto (tgt := 41) dX12_solves_90 (by decide) ?_
        refine zs_sub [2, 3, 4, 0, 5] rfl ?_
        exact ih _ _ _ _ _
def f_X12_solves  (p1 : Int32) (m : zz_Mem) : Option zz_Mem :=
  zz_letI (m.1 0 28) fun x1 =>
  zz_letM (zz_setI m 0 28 ((m.1 0 28) + (1 : Int32))) fun m2 =>
  zz_ix p1 8 <|
  zz_ix x1 9 <| zz_letM (zz_setI m2 13 x1.toNatClampNeg (m2.1 8 p1.toNatClampNeg)) fun m3 =>
  zz_ix x1 9 <| zz_letM (zz_setI m3 15 x1.toNatClampNeg p1) fun m4 =>
  f_X12_solves_41 zz_fuel p1 x1 (0 : Int32) (1000000000 : Int32) m4
theorem k_X12_solves {l : Launch} {G : zz_G} (hN : 26 ≤ zz_N G) : ∀ (p1 : Int32) (m : zz_Mem), zz_Con zz_shM l G mX12_solves 3 [.ref (zz_a G 0), .int p1] zz_vV zz_mV (f_X12_solves p1 m) m := by
  intro p1 m
  refine zz_con (lv := [(0, .ref (zz_a G 0)), (1, .int p1)]) (by decide +kernel) (Nat.le_of_ble_eq_true rfl) rfl ?_
  unfold f_X12_solves
  refine zs_aload_n dX12_solves_0 rfl 0 rfl ?_
  refine zs_getI fl_X12_272 dX12_solves_1 (shm_0 hN) rfl ?_
  refine zs_letI (fun x1 => ?_)
  refine zs_istore_n [(2, .int x1), (0, .ref (zz_a G 0)), (1, .int p1)] dX12_solves_4 rfl (Nat.le_of_ble_eq_true rfl) rfl ?_
  refine zs_aload_n dX12_solves_5 rfl 1 rfl ?_
  refine zs_dup dX12_solves_6 rfl ?_
  refine zs_getI fl_X12_272 dX12_solves_7 (shm_0 hN) rfl ?_
  refine zs_iconst (v := (1 : Int32)) dX12_solves_10 ci_1 ?_
  refine zs_iadd dX12_solves_11 ?_
  refine zs_putI fl_X12_272 dX12_solves_12 (shm_0 hN) rfl ⟨rfl, rfl⟩ (fun m2 => ?_)
  refine zs_aload_n dX12_solves_15 rfl 1 rfl ?_
  refine zs_getR fl_X12_54 dX12_solves_16 (shm_0 hN) rfl ?_
  refine zs_iload_n dX12_solves_19 rfl 0 rfl ?_
  refine zs_aload_n dX12_solves_20 rfl 1 rfl ?_
  refine zs_getR fl_X12_39 dX12_solves_21 (shm_0 hN) rfl ?_
  refine zs_iload_n dX12_solves_24 rfl 2 rfl ?_
  refine zs_ialdG dX12_solves_25 (shm_8 hN) ?_
  refine zs_iastG dX12_solves_26 (shm_13 hN) (fun m3 => ?_)
  refine zs_aload_n dX12_solves_27 rfl 1 rfl ?_
  refine zs_getR fl_X12_60 dX12_solves_28 (shm_0 hN) rfl ?_
  refine zs_iload_n dX12_solves_31 rfl 0 rfl ?_
  refine zs_iload_n dX12_solves_32 rfl 2 rfl ?_
  refine zs_iastG dX12_solves_33 (shm_15 hN) (fun m4 => ?_)
  refine zs_iconst (v := (0 : Int32)) dX12_solves_34 ci_0 ?_
  refine zs_istore_n [(3, .int (0 : Int32)), (2, .int x1), (0, .ref (zz_a G 0)), (1, .int p1)] dX12_solves_35 rfl (Nat.le_of_ble_eq_true rfl) rfl ?_
  refine zs_ldcw (v := (1000000000 : Int32)) dX12_solves_36 kc_X12_298 ?_
  refine zs_istore [(4, .int (1000000000 : Int32)), (3, .int (0 : Int32)), (2, .int x1), (0, .ref (zz_a G 0)), (1, .int p1)] dX12_solves_39 (Nat.le_of_ble_eq_true rfl) rfl ?_
  refine zs_sub [3, 4, 2, 1, 0] rfl ?_
  exact t_X12_solves_41 hN zz_fuel _ _ _ _ _
/-! X12_laysPillars: PillarDeskModel.laysPillars()V -/
theorem dX12_laysPillars_0 : decode cX12_laysPillars 0 = .ok (.aload_n 0, 1) := by decide +kernel
theorem dX12_laysPillars_1 : decode cX12_laysPillars 1 = .ok (.iconst 1, 1) := by decide +kernel
theorem dX12_laysPillars_2 : decode cX12_laysPillars 2 = .ok (.putfield 272, 3) := by decide +kernel
theorem dX12_laysPillars_5 : decode cX12_laysPillars 5 = .ok (.aload_n 0, 1) := by decide +kernel
theorem dX12_laysPillars_6 : decode cX12_laysPillars 6 = .ok (.getfield 54, 3) := by decide +kernel
theorem dX12_laysPillars_9 : decode cX12_laysPillars 9 = .ok (.iconst 0, 1) := by decide +kernel
theorem dX12_laysPillars_10 : decode cX12_laysPillars 10 = .ok (.iconst 0, 1) := by decide +kernel
theorem dX12_laysPillars_11 : decode cX12_laysPillars 11 = .ok (.iastore, 1) := by decide +kernel
theorem dX12_laysPillars_12 : decode cX12_laysPillars 12 = .ok (.aload_n 0, 1) := by decide +kernel
theorem dX12_laysPillars_13 : decode cX12_laysPillars 13 = .ok (.getfield 57, 3) := by decide +kernel
theorem dX12_laysPillars_16 : decode cX12_laysPillars 16 = .ok (.iconst 0, 1) := by decide +kernel
theorem dX12_laysPillars_17 : decode cX12_laysPillars 17 = .ok (.ldc_w 298, 3) := by decide +kernel
theorem dX12_laysPillars_20 : decode cX12_laysPillars 20 = .ok (.iastore, 1) := by decide +kernel
theorem dX12_laysPillars_21 : decode cX12_laysPillars 21 = .ok (.aload_n 0, 1) := by decide +kernel
theorem dX12_laysPillars_22 : decode cX12_laysPillars 22 = .ok (.getfield 60, 3) := by decide +kernel
theorem dX12_laysPillars_25 : decode cX12_laysPillars 25 = .ok (.iconst 0, 1) := by decide +kernel
theorem dX12_laysPillars_26 : decode cX12_laysPillars 26 = .ok (.iconst (-1), 1) := by decide +kernel
theorem dX12_laysPillars_27 : decode cX12_laysPillars 27 = .ok (.iastore, 1) := by decide +kernel
theorem dX12_laysPillars_28 : decode cX12_laysPillars 28 = .ok (.iconst 0, 1) := by decide +kernel
theorem dX12_laysPillars_29 : decode cX12_laysPillars 29 = .ok (.istore_n 1, 1) := by decide +kernel
theorem dX12_laysPillars_30 : decode cX12_laysPillars 30 = .ok (.iload_n 1, 1) := by decide +kernel
theorem dX12_laysPillars_31 : decode cX12_laysPillars 31 = .ok (.aload_n 0, 1) := by decide +kernel
theorem dX12_laysPillars_32 : decode cX12_laysPillars 32 = .ok (.getfield 13, 3) := by decide +kernel
theorem dX12_laysPillars_35 : decode cX12_laysPillars 35 = .ok (.iconst 4, 1) := by decide +kernel
theorem dX12_laysPillars_36 : decode cX12_laysPillars 36 = .ok (.iaload, 1) := by decide +kernel
theorem dX12_laysPillars_37 : decode cX12_laysPillars 37 = .ok (.if_icmp .ge 89, 3) := by decide +kernel
theorem dX12_laysPillars_40 : decode cX12_laysPillars 40 = .ok (.aload_n 0, 1) := by decide +kernel
theorem dX12_laysPillars_41 : decode cX12_laysPillars 41 = .ok (.getfield 42, 3) := by decide +kernel
theorem dX12_laysPillars_44 : decode cX12_laysPillars 44 = .ok (.iload_n 1, 1) := by decide +kernel
theorem dX12_laysPillars_45 : decode cX12_laysPillars 45 = .ok (.iaload, 1) := by decide +kernel
theorem dX12_laysPillars_46 : decode cX12_laysPillars 46 = .ok (.istore_n 2, 1) := by decide +kernel
theorem dX12_laysPillars_47 : decode cX12_laysPillars 47 = .ok (.aload_n 0, 1) := by decide +kernel
theorem dX12_laysPillars_48 : decode cX12_laysPillars 48 = .ok (.getfield 63, 3) := by decide +kernel
theorem dX12_laysPillars_51 : decode cX12_laysPillars 51 = .ok (.iload_n 2, 1) := by decide +kernel
theorem dX12_laysPillars_52 : decode cX12_laysPillars 52 = .ok (.aload_n 0, 1) := by decide +kernel
theorem dX12_laysPillars_53 : decode cX12_laysPillars 53 = .ok (.getfield 54, 3) := by decide +kernel
theorem dX12_laysPillars_56 : decode cX12_laysPillars 56 = .ok (.aload_n 0, 1) := by decide +kernel
theorem dX12_laysPillars_57 : decode cX12_laysPillars 57 = .ok (.getfield 272, 3) := by decide +kernel
theorem dX12_laysPillars_60 : decode cX12_laysPillars 60 = .ok (.iconst 1, 1) := by decide +kernel
theorem dX12_laysPillars_61 : decode cX12_laysPillars 61 = .ok (.isub, 1) := by decide +kernel
theorem dX12_laysPillars_62 : decode cX12_laysPillars 62 = .ok (.iaload, 1) := by decide +kernel
theorem dX12_laysPillars_63 : decode cX12_laysPillars 63 = .ok (.aload_n 0, 1) := by decide +kernel
theorem dX12_laysPillars_64 : decode cX12_laysPillars 64 = .ok (.getfield 39, 3) := by decide +kernel
theorem dX12_laysPillars_67 : decode cX12_laysPillars 67 = .ok (.iload_n 2, 1) := by decide +kernel
theorem dX12_laysPillars_68 : decode cX12_laysPillars 68 = .ok (.iaload, 1) := by decide +kernel
theorem dX12_laysPillars_69 : decode cX12_laysPillars 69 = .ok (.if_icmp .eq 31, 3) := by decide +kernel
theorem dX12_laysPillars_72 : decode cX12_laysPillars 72 = .ok (.aload_n 0, 1) := by decide +kernel
theorem dX12_laysPillars_73 : decode cX12_laysPillars 73 = .ok (.getfield 13, 3) := by decide +kernel
theorem dX12_laysPillars_76 : decode cX12_laysPillars 76 = .ok (.bipush 24, 2) := by decide +kernel
theorem dX12_laysPillars_78 : decode cX12_laysPillars 78 = .ok (.iload_n 2, 1) := by decide +kernel
theorem dX12_laysPillars_79 : decode cX12_laysPillars 79 = .ok (.iadd, 1) := by decide +kernel
theorem dX12_laysPillars_80 : decode cX12_laysPillars 80 = .ok (.iaload, 1) := by decide +kernel
theorem dX12_laysPillars_81 : decode cX12_laysPillars 81 = .ok (.iconst 1, 1) := by decide +kernel
theorem dX12_laysPillars_82 : decode cX12_laysPillars 82 = .ok (.if_icmp .ne 22, 3) := by decide +kernel
theorem dX12_laysPillars_85 : decode cX12_laysPillars 85 = .ok (.aload_n 0, 1) := by decide +kernel
theorem dX12_laysPillars_86 : decode cX12_laysPillars 86 = .ok (.getfield 36, 3) := by decide +kernel
theorem dX12_laysPillars_89 : decode cX12_laysPillars 89 = .ok (.iload_n 2, 1) := by decide +kernel
theorem dX12_laysPillars_90 : decode cX12_laysPillars 90 = .ok (.iaload, 1) := by decide +kernel
theorem dX12_laysPillars_91 : decode cX12_laysPillars 91 = .ok (.aload_n 0, 1) := by decide +kernel
theorem dX12_laysPillars_92 : decode cX12_laysPillars 92 = .ok (.getfield 39, 3) := by decide +kernel
theorem dX12_laysPillars_95 : decode cX12_laysPillars 95 = .ok (.iload_n 2, 1) := by decide +kernel
theorem dX12_laysPillars_96 : decode cX12_laysPillars 96 = .ok (.iaload, 1) := by decide +kernel
theorem dX12_laysPillars_97 : decode cX12_laysPillars 97 = .ok (.if_icmp .lt 7, 3) := by decide +kernel
theorem dX12_laysPillars_100 : decode cX12_laysPillars 100 = .ok (.iconst 1, 1) := by decide +kernel
theorem dX12_laysPillars_101 : decode cX12_laysPillars 101 = .ok (.goto 4, 3) := by decide +kernel
theorem dX12_laysPillars_104 : decode cX12_laysPillars 104 = .ok (.iconst 0, 1) := by decide +kernel
theorem dX12_laysPillars_105 : decode cX12_laysPillars 105 = .ok (.bastore, 1) := by decide +kernel
theorem dX12_laysPillars_106 : decode cX12_laysPillars 106 = .ok (.aload_n 0, 1) := by decide +kernel
theorem dX12_laysPillars_107 : decode cX12_laysPillars 107 = .ok (.getfield 63, 3) := by decide +kernel
theorem dX12_laysPillars_110 : decode cX12_laysPillars 110 = .ok (.iload_n 2, 1) := by decide +kernel
theorem dX12_laysPillars_111 : decode cX12_laysPillars 111 = .ok (.baload, 1) := by decide +kernel
theorem dX12_laysPillars_112 : decode cX12_laysPillars 112 = .ok (.ifCond .ne 8, 3) := by decide +kernel
theorem dX12_laysPillars_115 : decode cX12_laysPillars 115 = .ok (.aload_n 0, 1) := by decide +kernel
theorem dX12_laysPillars_116 : decode cX12_laysPillars 116 = .ok (.iload_n 2, 1) := by decide +kernel
theorem dX12_laysPillars_117 : decode cX12_laysPillars 117 = .ok (.invokevirtual 303, 3) := by decide +kernel
theorem dX12_laysPillars_120 : decode cX12_laysPillars 120 = .ok (.iinc 1 1, 3) := by decide +kernel
theorem dX12_laysPillars_123 : decode cX12_laysPillars 123 = .ok (.goto (-93), 3) := by decide +kernel
theorem dX12_laysPillars_126 : decode cX12_laysPillars 126 = .ok (.return_, 1) := by decide +kernel
def f_X12_laysPillars_105  (k30 : Int32 → zz_Mem → Option zz_Mem) (v1 : Int32) (v2 : Int32) (s0 : Int32) (s1 : Int32) (m : zz_Mem) : Option zz_Mem :=
  zz_ix s1 8 <| zz_letM (zz_setI m 16 s1.toNatClampNeg (vp_nar .boolean s0)) fun m1 =>
  zz_ix v2 8 <|
  if (m1.1 16 v2.toNatClampNeg) = 0 then (
  zz_bndR (f_X12_solves v2 m1) fun m3 =>
  zz_letI (v1 + (1 : Int32)) fun x4 =>
  k30 x4 m3)
  else (
  zz_letI (v1 + (1 : Int32)) fun x2 =>
  k30 x2 m1)
theorem t_X12_laysPillars_105 {l : Launch} {G : zz_G} (hN : 26 ≤ zz_N G) {k30 : Int32 → zz_Mem → Option zz_Mem} (hk30 : ∀ (v1 : Int32) (m : zz_Mem), zz_Sim zz_shM l G mX12_laysPillars 4 zz_vV zz_mV (k30 v1 m) 30 [(0, .ref (zz_a G 0)), (1, .int v1)] [] m) : ∀ (v1 : Int32) (v2 : Int32) (s0 : Int32) (s1 : Int32) (m : zz_Mem), zz_Sim zz_shM l G mX12_laysPillars 4 zz_vV zz_mV (f_X12_laysPillars_105 k30 v1 v2 s0 s1 m) 105 [(0, .ref (zz_a G 0)), (1, .int v1), (2, .int v2)] [.int s0, .int s1, .ref (zz_a G 16)] m := by
  intro v1 v2 s0 s1 m
  unfold f_X12_laysPillars_105
  refine zs_zastG dX12_laysPillars_105 (shm_16 hN) (fun m1 => ?_)
  refine zs_aload_n dX12_laysPillars_106 rfl 0 rfl ?_
  refine zs_getR fl_X12_63 dX12_laysPillars_107 (shm_0 hN) rfl ?_
  refine zs_iload_n dX12_laysPillars_110 rfl 2 rfl ?_
  refine zs_zaldG dX12_laysPillars_111 (shm_16 hN) ?_
  refine zs_if_ne (tgt := 120) dX12_laysPillars_112 (by decide) ?_ ?_
  · refine zs_iinc (fun y => [(1, .int y), (0, .ref (zz_a G 0)), (2, .int v2)]) dX12_laysPillars_120 1 rfl ci_1 (Nat.le_of_ble_eq_true rfl) (fun _ => rfl) (fun x2 => ?_)
    refine zs_goto (tgt := 30) dX12_laysPillars_123 (by decide) ?_
    refine zs_sub [1, 0] rfl ?_
    exact hk30 _ _
  · refine zs_aload_n dX12_laysPillars_115 rfl 0 rfl ?_
    refine zs_iload_n dX12_laysPillars_116 rfl 2 rfl ?_
    refine zs_cV_vW (rest := []) (k_X12_solves hN _ _) dX12_laysPillars_117 lv_X12_303 ok_X12_solves (zz_rcv_o (shm_0 hN) rfl) (Nat.le_of_ble_eq_true rfl) rfl rfl (Nat.le_of_ble_eq_true rfl) (fun m3 => ?_)
    refine zs_iinc (fun y => [(1, .int y), (0, .ref (zz_a G 0)), (2, .int v2)]) dX12_laysPillars_120 1 rfl ci_1 (Nat.le_of_ble_eq_true rfl) (fun _ => rfl) (fun x4 => ?_)
    refine zs_goto (tgt := 30) dX12_laysPillars_123 (by decide) ?_
    refine zs_sub [1, 0] rfl ?_
    exact hk30 _ _
def f_X12_laysPillars_30   : Nat → Int32 → zz_Mem → Option zz_Mem
  | 0, _, _ => none
  | n + 1, v1, m =>
  if (m.1 1 4) ≤ v1 then (
  some m)
  else (
  zz_ix v1 8 <|
  zz_letI (m.1 9 v1.toNatClampNeg) fun x1 =>
  zz_ix ((m.1 0 28) - (1 : Int32)) 9 <|
  zz_ix x1 8 <|
  if (m.1 13 ((m.1 0 28) - (1 : Int32)).toNatClampNeg) = (m.1 8 x1.toNatClampNeg) then (
  f_X12_laysPillars_105 (f_X12_laysPillars_30 n) v1 x1 (1 : Int32) x1 m)
  else (
  zz_ix ((24 : Int32) + x1) 3531 <|
  if (m.1 1 ((24 : Int32) + x1).toNatClampNeg) = (1 : Int32) then (
  zz_ix x1 8 <|
  zz_ix x1 8 <|
  if (m.1 7 x1.toNatClampNeg) < (m.1 8 x1.toNatClampNeg) then (
  f_X12_laysPillars_105 (f_X12_laysPillars_30 n) v1 x1 (0 : Int32) x1 m)
  else (
  f_X12_laysPillars_105 (f_X12_laysPillars_30 n) v1 x1 (1 : Int32) x1 m))
  else (
  f_X12_laysPillars_105 (f_X12_laysPillars_30 n) v1 x1 (0 : Int32) x1 m)))
theorem t_X12_laysPillars_30 {l : Launch} {G : zz_G} (hN : 26 ≤ zz_N G)  : ∀ (n : Nat) (v1 : Int32) (m : zz_Mem), zz_Sim zz_shM l G mX12_laysPillars 4 zz_vV zz_mV (f_X12_laysPillars_30 n v1 m) 30 [(0, .ref (zz_a G 0)), (1, .int v1)] [] m := by
  intro n
  induction n with
  | zero => intro _ _; exact zs_none
  | succ n ih =>
    intro v1 m
    rw [f_X12_laysPillars_30]
    refine zs_iload_n dX12_laysPillars_30 rfl 1 rfl ?_
    refine zs_aload_n dX12_laysPillars_31 rfl 0 rfl ?_
    refine zs_getR fl_X12_13 dX12_laysPillars_32 (shm_0 hN) rfl ?_
    refine zs_iconst (v := (4 : Int32)) dX12_laysPillars_35 ci_4 ?_
    refine zs_ialdC dX12_laysPillars_36 (shm_1 hN) vin_4_3531 clp_4 ?_
    refine zs_icmp_ge (tgt := 126) dX12_laysPillars_37 (by decide) ?_ ?_
    · exact zs_vret dX12_laysPillars_126 rfl rfl rfl
    · refine zs_aload_n dX12_laysPillars_40 rfl 0 rfl ?_
      refine zs_getR fl_X12_42 dX12_laysPillars_41 (shm_0 hN) rfl ?_
      refine zs_iload_n dX12_laysPillars_44 rfl 1 rfl ?_
      refine zs_ialdG dX12_laysPillars_45 (shm_9 hN) ?_
      refine zs_letI (fun x1 => ?_)
      refine zs_istore_n [(2, .int x1), (0, .ref (zz_a G 0)), (1, .int v1)] dX12_laysPillars_46 rfl (Nat.le_of_ble_eq_true rfl) rfl ?_
      refine zs_aload_n dX12_laysPillars_47 rfl 1 rfl ?_
      refine zs_getR fl_X12_63 dX12_laysPillars_48 (shm_0 hN) rfl ?_
      refine zs_iload_n dX12_laysPillars_51 rfl 0 rfl ?_
      refine zs_aload_n dX12_laysPillars_52 rfl 1 rfl ?_
      refine zs_getR fl_X12_54 dX12_laysPillars_53 (shm_0 hN) rfl ?_
      refine zs_aload_n dX12_laysPillars_56 rfl 1 rfl ?_
      refine zs_getI fl_X12_272 dX12_laysPillars_57 (shm_0 hN) rfl ?_
      refine zs_iconst (v := (1 : Int32)) dX12_laysPillars_60 ci_1 ?_
      refine zs_isub dX12_laysPillars_61 ?_
      refine zs_ialdG dX12_laysPillars_62 (shm_13 hN) ?_
      refine zs_aload_n dX12_laysPillars_63 rfl 1 rfl ?_
      refine zs_getR fl_X12_39 dX12_laysPillars_64 (shm_0 hN) rfl ?_
      refine zs_iload_n dX12_laysPillars_67 rfl 0 rfl ?_
      refine zs_ialdG dX12_laysPillars_68 (shm_8 hN) ?_
      refine zs_icmp_eq (tgt := 100) dX12_laysPillars_69 (by decide) ?_ ?_
      · refine zs_iconst (v := (1 : Int32)) dX12_laysPillars_100 ci_1 ?_
        refine zs_goto (tgt := 105) dX12_laysPillars_101 (by decide) ?_
        refine zs_sub [1, 2, 0] rfl ?_
        exact t_X12_laysPillars_105 hN ih _ _ _ _ _
      · refine zs_aload_n dX12_laysPillars_72 rfl 1 rfl ?_
        refine zs_getR fl_X12_13 dX12_laysPillars_73 (shm_0 hN) rfl ?_
        refine zs_bipush (v := (24 : Int32)) dX12_laysPillars_76 cb_24 ?_
        refine zs_iload_n dX12_laysPillars_78 rfl 0 rfl ?_
        refine zs_iadd dX12_laysPillars_79 ?_
        refine zs_ialdG dX12_laysPillars_80 (shm_1 hN) ?_
        refine zs_iconst (v := (1 : Int32)) dX12_laysPillars_81 ci_1 ?_
        refine zs_icmp_ne (tgt := 104) dX12_laysPillars_82 (by decide) ?_ ?_
        · refine zs_iconst (v := (0 : Int32)) dX12_laysPillars_104 ci_0 ?_
          refine zs_sub [1, 2, 0] rfl ?_
          exact t_X12_laysPillars_105 hN ih _ _ _ _ _
        · refine zs_aload_n dX12_laysPillars_85 rfl 1 rfl ?_
          refine zs_getR fl_X12_36 dX12_laysPillars_86 (shm_0 hN) rfl ?_
          refine zs_iload_n dX12_laysPillars_89 rfl 0 rfl ?_
          refine zs_ialdG dX12_laysPillars_90 (shm_7 hN) ?_
          refine zs_aload_n dX12_laysPillars_91 rfl 1 rfl ?_
          refine zs_getR fl_X12_39 dX12_laysPillars_92 (shm_0 hN) rfl ?_
          refine zs_iload_n dX12_laysPillars_95 rfl 0 rfl ?_
          refine zs_ialdG dX12_laysPillars_96 (shm_8 hN) ?_
          refine zs_icmp_lt (tgt := 104) dX12_laysPillars_97 (by decide) ?_ ?_
          · refine zs_iconst (v := (0 : Int32)) dX12_laysPillars_104 ci_0 ?_
            refine zs_sub [1, 2, 0] rfl ?_
            exact t_X12_laysPillars_105 hN ih _ _ _ _ _
          · refine zs_iconst (v := (1 : Int32)) dX12_laysPillars_100 ci_1 ?_
            refine zs_goto (tgt := 105) dX12_laysPillars_101 (by decide) ?_
            refine zs_sub [1, 2, 0] rfl ?_
            exact t_X12_laysPillars_105 hN ih _ _ _ _ _
def f_X12_laysPillars   (m : zz_Mem) : Option zz_Mem :=
  zz_letM (zz_setI m 0 28 (1 : Int32)) fun m1 =>
  zz_letM (zz_setI m1 13 0 (0 : Int32)) fun m2 =>
  zz_letM (zz_setI m2 14 0 (1000000000 : Int32)) fun m3 =>
  zz_letM (zz_setI m3 15 0 (-1 : Int32)) fun m4 =>
  f_X12_laysPillars_30 zz_fuel (0 : Int32) m4
theorem k_X12_laysPillars {l : Launch} {G : zz_G} (hN : 26 ≤ zz_N G) : ∀ (m : zz_Mem), zz_Con zz_shM l G mX12_laysPillars 4 [.ref (zz_a G 0)] zz_vV zz_mV (f_X12_laysPillars m) m := by
  intro m
  refine zz_con (lv := [(0, .ref (zz_a G 0))]) (by decide +kernel) (Nat.le_of_ble_eq_true rfl) rfl ?_
  unfold f_X12_laysPillars
  refine zs_aload_n dX12_laysPillars_0 rfl 0 rfl ?_
  refine zs_iconst (v := (1 : Int32)) dX12_laysPillars_1 ci_1 ?_
  refine zs_putI fl_X12_272 dX12_laysPillars_2 (shm_0 hN) rfl ⟨rfl, rfl⟩ (fun m1 => ?_)
  refine zs_aload_n dX12_laysPillars_5 rfl 0 rfl ?_
  refine zs_getR fl_X12_54 dX12_laysPillars_6 (shm_0 hN) rfl ?_
  refine zs_iconst (v := (0 : Int32)) dX12_laysPillars_9 ci_0 ?_
  refine zs_iconst (v := (0 : Int32)) dX12_laysPillars_10 ci_0 ?_
  refine zs_iastC dX12_laysPillars_11 (shm_13 hN) vin_0_9 clp_0 (fun m2 => ?_)
  refine zs_aload_n dX12_laysPillars_12 rfl 0 rfl ?_
  refine zs_getR fl_X12_57 dX12_laysPillars_13 (shm_0 hN) rfl ?_
  refine zs_iconst (v := (0 : Int32)) dX12_laysPillars_16 ci_0 ?_
  refine zs_ldcw (v := (1000000000 : Int32)) dX12_laysPillars_17 kc_X12_298 ?_
  refine zs_iastC dX12_laysPillars_20 (shm_14 hN) vin_0_9 clp_0 (fun m3 => ?_)
  refine zs_aload_n dX12_laysPillars_21 rfl 0 rfl ?_
  refine zs_getR fl_X12_60 dX12_laysPillars_22 (shm_0 hN) rfl ?_
  refine zs_iconst (v := (0 : Int32)) dX12_laysPillars_25 ci_0 ?_
  refine zs_iconst (v := (-1 : Int32)) dX12_laysPillars_26 ci_m1 ?_
  refine zs_iastC dX12_laysPillars_27 (shm_15 hN) vin_0_9 clp_0 (fun m4 => ?_)
  refine zs_iconst (v := (0 : Int32)) dX12_laysPillars_28 ci_0 ?_
  refine zs_istore_n [(1, .int (0 : Int32)), (0, .ref (zz_a G 0))] dX12_laysPillars_29 rfl (Nat.le_of_ble_eq_true rfl) rfl ?_
  refine zs_sub [1, 0] rfl ?_
  exact t_X12_laysPillars_30 hN zz_fuel _ _
/-! X12_laysCurve: PillarDeskModel.laysCurve()V -/
theorem dX12_laysCurve_0 : decode cX12_laysCurve 0 = .ok (.aload_n 0, 1) := by decide +kernel
theorem dX12_laysCurve_1 : decode cX12_laysCurve 1 = .ok (.aload_n 0, 1) := by decide +kernel
theorem dX12_laysCurve_2 : decode cX12_laysCurve 2 = .ok (.getfield 13, 3) := by decide +kernel
theorem dX12_laysCurve_5 : decode cX12_laysCurve 5 = .ok (.bipush 74, 2) := by decide +kernel
theorem dX12_laysCurve_7 : decode cX12_laysCurve 7 = .ok (.iaload, 1) := by decide +kernel
theorem dX12_laysCurve_8 : decode cX12_laysCurve 8 = .ok (.invokevirtual 306, 3) := by decide +kernel
theorem dX12_laysCurve_11 : decode cX12_laysCurve 11 = .ok (.aload_n 0, 1) := by decide +kernel
theorem dX12_laysCurve_12 : decode cX12_laysCurve 12 = .ok (.invokevirtual 309, 3) := by decide +kernel
theorem dX12_laysCurve_15 : decode cX12_laysCurve 15 = .ok (.return_, 1) := by decide +kernel
def f_X12_laysCurve   (m : zz_Mem) : Option zz_Mem :=
  zz_bndR (f_X12_laysCounts (m.1 1 74) m) fun m1 =>
  zz_bndR (f_X12_laysPillars m1) fun m2 =>
  some m2
theorem k_X12_laysCurve {l : Launch} {G : zz_G} (hN : 26 ≤ zz_N G) : ∀ (m : zz_Mem), zz_Con zz_shM l G mX12_laysCurve 5 [.ref (zz_a G 0)] zz_vV zz_mV (f_X12_laysCurve m) m := by
  intro m
  refine zz_con (lv := [(0, .ref (zz_a G 0))]) (by decide +kernel) (Nat.le_of_ble_eq_true rfl) rfl ?_
  unfold f_X12_laysCurve
  refine zs_aload_n dX12_laysCurve_0 rfl 0 rfl ?_
  refine zs_aload_n dX12_laysCurve_1 rfl 0 rfl ?_
  refine zs_getR fl_X12_13 dX12_laysCurve_2 (shm_0 hN) rfl ?_
  refine zs_bipush (v := (74 : Int32)) dX12_laysCurve_5 cb_74 ?_
  refine zs_ialdC dX12_laysCurve_7 (shm_1 hN) vin_74_3531 clp_74 ?_
  refine zs_cV_vW (rest := []) (k_X12_laysCounts hN _ _) dX12_laysCurve_8 lv_X12_306 ok_X12_laysCounts (zz_rcv_o (shm_0 hN) rfl) (Nat.le_of_ble_eq_true rfl) rfl rfl (Nat.le_of_ble_eq_true rfl) (fun m1 => ?_)
  refine zs_aload_n dX12_laysCurve_11 rfl 0 rfl ?_
  refine zs_cV_vW (rest := []) (k_X12_laysPillars hN  _) dX12_laysCurve_12 lv_X12_309 ok_X12_laysPillars (zz_rcv_o (shm_0 hN) rfl) (Nat.le_of_ble_eq_true rfl) rfl rfl (Nat.le_of_ble_eq_true rfl) (fun m2 => ?_)
  exact zs_vret dX12_laysCurve_15 rfl rfl rfl
/-! X12_laysWith: PillarDeskModel.laysWith(II)V -/
theorem dX12_laysWith_0 : decode cX12_laysWith 0 = .ok (.aload_n 0, 1) := by decide +kernel
theorem dX12_laysWith_1 : decode cX12_laysWith 1 = .ok (.aload_n 0, 1) := by decide +kernel
theorem dX12_laysWith_2 : decode cX12_laysWith 2 = .ok (.getfield 13, 3) := by decide +kernel
theorem dX12_laysWith_5 : decode cX12_laysWith 5 = .ok (.bipush 74, 2) := by decide +kernel
theorem dX12_laysWith_7 : decode cX12_laysWith 7 = .ok (.iaload, 1) := by decide +kernel
theorem dX12_laysWith_8 : decode cX12_laysWith 8 = .ok (.invokevirtual 306, 3) := by decide +kernel
theorem dX12_laysWith_11 : decode cX12_laysWith 11 = .ok (.aload_n 0, 1) := by decide +kernel
theorem dX12_laysWith_12 : decode cX12_laysWith 12 = .ok (.getfield 51, 3) := by decide +kernel
theorem dX12_laysWith_15 : decode cX12_laysWith 15 = .ok (.iload_n 1, 1) := by decide +kernel
theorem dX12_laysWith_16 : decode cX12_laysWith 16 = .ok (.aload_n 0, 1) := by decide +kernel
theorem dX12_laysWith_17 : decode cX12_laysWith 17 = .ok (.getfield 51, 3) := by decide +kernel
theorem dX12_laysWith_20 : decode cX12_laysWith 20 = .ok (.iload_n 1, 1) := by decide +kernel
theorem dX12_laysWith_21 : decode cX12_laysWith 21 = .ok (.iaload, 1) := by decide +kernel
theorem dX12_laysWith_22 : decode cX12_laysWith 22 = .ok (.iload_n 2, 1) := by decide +kernel
theorem dX12_laysWith_23 : decode cX12_laysWith 23 = .ok (.iadd, 1) := by decide +kernel
theorem dX12_laysWith_24 : decode cX12_laysWith 24 = .ok (.iconst 0, 1) := by decide +kernel
theorem dX12_laysWith_25 : decode cX12_laysWith 25 = .ok (.sipush 999, 3) := by decide +kernel
theorem dX12_laysWith_28 : decode cX12_laysWith 28 = .ok (.invokestatic 266, 3) := by decide +kernel
theorem dX12_laysWith_31 : decode cX12_laysWith 31 = .ok (.iastore, 1) := by decide +kernel
theorem dX12_laysWith_32 : decode cX12_laysWith 32 = .ok (.aload_n 0, 1) := by decide +kernel
theorem dX12_laysWith_33 : decode cX12_laysWith 33 = .ok (.invokevirtual 309, 3) := by decide +kernel
theorem dX12_laysWith_36 : decode cX12_laysWith 36 = .ok (.return_, 1) := by decide +kernel
def f_X12_laysWith  (p1 : Int32) (p2 : Int32) (m : zz_Mem) : Option zz_Mem :=
  zz_bndR (f_X12_laysCounts (m.1 1 74) m) fun m1 =>
  zz_ix p1 8 <|
  zz_bndR (f_X12_kept ((m1.1 12 p1.toNatClampNeg) + p2) (0 : Int32) (999 : Int32)) fun r2 =>
  zz_ix p1 8 <| zz_letM (zz_setI m1 12 p1.toNatClampNeg r2) fun m3 =>
  zz_bndR (f_X12_laysPillars m3) fun m4 =>
  some m4
theorem k_X12_laysWith {l : Launch} {G : zz_G} (hN : 26 ≤ zz_N G) : ∀ (p1 : Int32) (p2 : Int32) (m : zz_Mem), zz_Con zz_shM l G mX12_laysWith 5 [.ref (zz_a G 0), .int p1, .int p2] zz_vV zz_mV (f_X12_laysWith p1 p2 m) m := by
  intro p1 p2 m
  refine zz_con (lv := [(0, .ref (zz_a G 0)), (1, .int p1), (2, .int p2)]) (by decide +kernel) (Nat.le_of_ble_eq_true rfl) rfl ?_
  unfold f_X12_laysWith
  refine zs_aload_n dX12_laysWith_0 rfl 0 rfl ?_
  refine zs_aload_n dX12_laysWith_1 rfl 0 rfl ?_
  refine zs_getR fl_X12_13 dX12_laysWith_2 (shm_0 hN) rfl ?_
  refine zs_bipush (v := (74 : Int32)) dX12_laysWith_5 cb_74 ?_
  refine zs_ialdC dX12_laysWith_7 (shm_1 hN) vin_74_3531 clp_74 ?_
  refine zs_cV_vW (rest := []) (k_X12_laysCounts hN _ _) dX12_laysWith_8 lv_X12_306 ok_X12_laysCounts (zz_rcv_o (shm_0 hN) rfl) (Nat.le_of_ble_eq_true rfl) rfl rfl (Nat.le_of_ble_eq_true rfl) (fun m1 => ?_)
  refine zs_aload_n dX12_laysWith_11 rfl 0 rfl ?_
  refine zs_getR fl_X12_51 dX12_laysWith_12 (shm_0 hN) rfl ?_
  refine zs_iload_n dX12_laysWith_15 rfl 1 rfl ?_
  refine zs_aload_n dX12_laysWith_16 rfl 0 rfl ?_
  refine zs_getR fl_X12_51 dX12_laysWith_17 (shm_0 hN) rfl ?_
  refine zs_iload_n dX12_laysWith_20 rfl 1 rfl ?_
  refine zs_ialdG dX12_laysWith_21 (shm_12 hN) ?_
  refine zs_iload_n dX12_laysWith_22 rfl 2 rfl ?_
  refine zs_iadd dX12_laysWith_23 ?_
  refine zs_iconst (v := (0 : Int32)) dX12_laysWith_24 ci_0 ?_
  refine zs_sipush (v := (999 : Int32)) dX12_laysWith_25 cs_999 ?_
  refine zs_cS_iR (rest := [.int p1, .ref (zz_a G 12)]) (k_X12_kept hN _ _ _ _) dX12_laysWith_28 ls_X12_266 ok_X12_kept (Nat.le_of_ble_eq_true rfl) rfl rfl (Nat.le_of_ble_eq_true rfl) (fun r2 => ?_)
  refine zs_iastG dX12_laysWith_31 (shm_12 hN) (fun m3 => ?_)
  refine zs_aload_n dX12_laysWith_32 rfl 0 rfl ?_
  refine zs_cV_vW (rest := []) (k_X12_laysPillars hN  _) dX12_laysWith_33 lv_X12_309 ok_X12_laysPillars (zz_rcv_o (shm_0 hN) rfl) (Nat.le_of_ble_eq_true rfl) rfl rfl (Nat.le_of_ble_eq_true rfl) (fun m4 => ?_)
  exact zs_vret dX12_laysWith_36 rfl rfl rfl
/-! X12_input: PillarDeskModel.input(II)I -/
theorem dX12_input_0 : decode cX12_input 0 = .ok (.aload_n 0, 1) := by decide +kernel
theorem dX12_input_1 : decode cX12_input 1 = .ok (.iconst 0, 1) := by decide +kernel
theorem dX12_input_2 : decode cX12_input 2 = .ok (.putfield 1, 3) := by decide +kernel
theorem dX12_input_5 : decode cX12_input 5 = .ok (.aload_n 0, 1) := by decide +kernel
theorem dX12_input_6 : decode cX12_input 6 = .ok (.iload_n 1, 1) := by decide +kernel
theorem dX12_input_7 : decode cX12_input 7 = .ok (.i2l, 1) := by decide +kernel
theorem dX12_input_8 : decode cX12_input 8 = .ok (.invokevirtual 262, 3) := by decide +kernel
theorem dX12_input_11 : decode cX12_input 11 = .ok (.ifCond .ne 6, 3) := by decide +kernel
theorem dX12_input_14 : decode cX12_input 14 = .ok (.bipush (-2), 2) := by decide +kernel
theorem dX12_input_16 : decode cX12_input 16 = .ok (.ireturn, 1) := by decide +kernel
theorem dX12_input_17 : decode cX12_input 17 = .ok (.iload_n 2, 1) := by decide +kernel
theorem dX12_input_18 : decode cX12_input 18 = .ok (.tableswitch 146 0 8 #[50, 60, 70, 80, 87, 94, 104, 117, 127], 50) := by decide +kernel
theorem dX12_input_68 : decode cX12_input 68 = .ok (.aload_n 0, 1) := by decide +kernel
theorem dX12_input_69 : decode cX12_input 69 = .ok (.getfield 13, 3) := by decide +kernel
theorem dX12_input_72 : decode cX12_input 72 = .ok (.bipush 24, 2) := by decide +kernel
theorem dX12_input_74 : decode cX12_input 74 = .ok (.iload_n 1, 1) := by decide +kernel
theorem dX12_input_75 : decode cX12_input 75 = .ok (.iadd, 1) := by decide +kernel
theorem dX12_input_76 : decode cX12_input 76 = .ok (.iaload, 1) := by decide +kernel
theorem dX12_input_77 : decode cX12_input 77 = .ok (.ireturn, 1) := by decide +kernel
theorem dX12_input_78 : decode cX12_input 78 = .ok (.aload_n 0, 1) := by decide +kernel
theorem dX12_input_79 : decode cX12_input 79 = .ok (.getfield 13, 3) := by decide +kernel
theorem dX12_input_82 : decode cX12_input 82 = .ok (.bipush 32, 2) := by decide +kernel
theorem dX12_input_84 : decode cX12_input 84 = .ok (.iload_n 1, 1) := by decide +kernel
theorem dX12_input_85 : decode cX12_input 85 = .ok (.iadd, 1) := by decide +kernel
theorem dX12_input_86 : decode cX12_input 86 = .ok (.iaload, 1) := by decide +kernel
theorem dX12_input_87 : decode cX12_input 87 = .ok (.ireturn, 1) := by decide +kernel
theorem dX12_input_88 : decode cX12_input 88 = .ok (.aload_n 0, 1) := by decide +kernel
theorem dX12_input_89 : decode cX12_input 89 = .ok (.getfield 13, 3) := by decide +kernel
theorem dX12_input_92 : decode cX12_input 92 = .ok (.bipush 40, 2) := by decide +kernel
theorem dX12_input_94 : decode cX12_input 94 = .ok (.iload_n 1, 1) := by decide +kernel
theorem dX12_input_95 : decode cX12_input 95 = .ok (.iadd, 1) := by decide +kernel
theorem dX12_input_96 : decode cX12_input 96 = .ok (.iaload, 1) := by decide +kernel
theorem dX12_input_97 : decode cX12_input 97 = .ok (.ireturn, 1) := by decide +kernel
theorem dX12_input_98 : decode cX12_input 98 = .ok (.aload_n 0, 1) := by decide +kernel
theorem dX12_input_99 : decode cX12_input 99 = .ok (.getfield 36, 3) := by decide +kernel
theorem dX12_input_102 : decode cX12_input 102 = .ok (.iload_n 1, 1) := by decide +kernel
theorem dX12_input_103 : decode cX12_input 103 = .ok (.iaload, 1) := by decide +kernel
theorem dX12_input_104 : decode cX12_input 104 = .ok (.ireturn, 1) := by decide +kernel
theorem dX12_input_105 : decode cX12_input 105 = .ok (.aload_n 0, 1) := by decide +kernel
theorem dX12_input_106 : decode cX12_input 106 = .ok (.getfield 39, 3) := by decide +kernel
theorem dX12_input_109 : decode cX12_input 109 = .ok (.iload_n 1, 1) := by decide +kernel
theorem dX12_input_110 : decode cX12_input 110 = .ok (.iaload, 1) := by decide +kernel
theorem dX12_input_111 : decode cX12_input 111 = .ok (.ireturn, 1) := by decide +kernel
theorem dX12_input_112 : decode cX12_input 112 = .ok (.aload_n 0, 1) := by decide +kernel
theorem dX12_input_113 : decode cX12_input 113 = .ok (.getfield 13, 3) := by decide +kernel
theorem dX12_input_116 : decode cX12_input 116 = .ok (.bipush 66, 2) := by decide +kernel
theorem dX12_input_118 : decode cX12_input 118 = .ok (.iload_n 1, 1) := by decide +kernel
theorem dX12_input_119 : decode cX12_input 119 = .ok (.iadd, 1) := by decide +kernel
theorem dX12_input_120 : decode cX12_input 120 = .ok (.iaload, 1) := by decide +kernel
theorem dX12_input_121 : decode cX12_input 121 = .ok (.ireturn, 1) := by decide +kernel
theorem dX12_input_122 : decode cX12_input 122 = .ok (.aload_n 0, 1) := by decide +kernel
theorem dX12_input_123 : decode cX12_input 123 = .ok (.iload_n 1, 1) := by decide +kernel
theorem dX12_input_124 : decode cX12_input 124 = .ok (.aload_n 0, 1) := by decide +kernel
theorem dX12_input_125 : decode cX12_input 125 = .ok (.getfield 13, 3) := by decide +kernel
theorem dX12_input_128 : decode cX12_input 128 = .ok (.bipush 74, 2) := by decide +kernel
theorem dX12_input_130 : decode cX12_input 130 = .ok (.iaload, 1) := by decide +kernel
theorem dX12_input_131 : decode cX12_input 131 = .ok (.invokevirtual 269, 3) := by decide +kernel
theorem dX12_input_134 : decode cX12_input 134 = .ok (.ireturn, 1) := by decide +kernel
theorem dX12_input_135 : decode cX12_input 135 = .ok (.aload_n 0, 1) := by decide +kernel
theorem dX12_input_136 : decode cX12_input 136 = .ok (.getfield 13, 3) := by decide +kernel
theorem dX12_input_139 : decode cX12_input 139 = .ok (.bipush 48, 2) := by decide +kernel
theorem dX12_input_141 : decode cX12_input 141 = .ok (.iload_n 1, 1) := by decide +kernel
theorem dX12_input_142 : decode cX12_input 142 = .ok (.iadd, 1) := by decide +kernel
theorem dX12_input_143 : decode cX12_input 143 = .ok (.iaload, 1) := by decide +kernel
theorem dX12_input_144 : decode cX12_input 144 = .ok (.ireturn, 1) := by decide +kernel
theorem dX12_input_145 : decode cX12_input 145 = .ok (.aload_n 0, 1) := by decide +kernel
theorem dX12_input_146 : decode cX12_input 146 = .ok (.invokevirtual 312, 3) := by decide +kernel
theorem dX12_input_149 : decode cX12_input 149 = .ok (.aload_n 0, 1) := by decide +kernel
theorem dX12_input_150 : decode cX12_input 150 = .ok (.getfield 63, 3) := by decide +kernel
theorem dX12_input_153 : decode cX12_input 153 = .ok (.iload_n 1, 1) := by decide +kernel
theorem dX12_input_154 : decode cX12_input 154 = .ok (.baload, 1) := by decide +kernel
theorem dX12_input_155 : decode cX12_input 155 = .ok (.ifCond .eq 7, 3) := by decide +kernel
theorem dX12_input_158 : decode cX12_input 158 = .ok (.iconst 1, 1) := by decide +kernel
theorem dX12_input_159 : decode cX12_input 159 = .ok (.goto 4, 3) := by decide +kernel
theorem dX12_input_162 : decode cX12_input 162 = .ok (.iconst 0, 1) := by decide +kernel
theorem dX12_input_163 : decode cX12_input 163 = .ok (.ireturn, 1) := by decide +kernel
theorem dX12_input_164 : decode cX12_input 164 = .ok (.bipush (-2), 2) := by decide +kernel
theorem dX12_input_166 : decode cX12_input 166 = .ok (.ireturn, 1) := by decide +kernel
def f_X12_input  (p1 : Int32) (p2 : Int32) (m : zz_Mem) : Option (Int32 × zz_Mem) :=
  zz_letM (zz_setI m 0 0 (0 : Int32)) fun m1 =>
  zz_bndR (f_X12_isInput m1 p1.toInt64) fun r2 =>
  if r2 = 0 then (
  some ((-2 : Int32), m1))
  else (
  if p2 = (0 : Int32) then (
  zz_ix ((24 : Int32) + p1) 3531 <|
  some (m1.1 1 ((24 : Int32) + p1).toNatClampNeg, m1))
  else if p2 = (1 : Int32) then (
  zz_ix ((32 : Int32) + p1) 3531 <|
  some (m1.1 1 ((32 : Int32) + p1).toNatClampNeg, m1))
  else if p2 = (2 : Int32) then (
  zz_ix ((40 : Int32) + p1) 3531 <|
  some (m1.1 1 ((40 : Int32) + p1).toNatClampNeg, m1))
  else if p2 = (3 : Int32) then (
  zz_ix p1 8 <|
  some (m1.1 7 p1.toNatClampNeg, m1))
  else if p2 = (4 : Int32) then (
  zz_ix p1 8 <|
  some (m1.1 8 p1.toNatClampNeg, m1))
  else if p2 = (5 : Int32) then (
  zz_ix ((66 : Int32) + p1) 3531 <|
  some (m1.1 1 ((66 : Int32) + p1).toNatClampNeg, m1))
  else if p2 = (6 : Int32) then (
  zz_bnd (f_X12_countOf p1 (m1.1 1 74) m1) fun r10 m11 =>
  some (r10, m11))
  else if p2 = (7 : Int32) then (
  zz_ix ((48 : Int32) + p1) 3531 <|
  some (m1.1 1 ((48 : Int32) + p1).toNatClampNeg, m1))
  else if p2 = (8 : Int32) then (
  zz_bndR (f_X12_laysCurve m1) fun m14 =>
  zz_ix p1 8 <|
  if (m14.1 16 p1.toNatClampNeg) = 0 then (
  some ((0 : Int32), m14))
  else (
  some ((1 : Int32), m14)))
  else (
  some ((-2 : Int32), m1)))
theorem k_X12_input {l : Launch} {G : zz_G} (hN : 26 ≤ zz_N G) : ∀ (p1 : Int32) (p2 : Int32) (m : zz_Mem), zz_Con zz_shM l G mX12_input 6 [.ref (zz_a G 0), .int p1, .int p2] zz_vI zz_m2 (f_X12_input p1 p2 m) m := by
  intro p1 p2 m
  refine zz_con (lv := [(0, .ref (zz_a G 0)), (1, .int p1), (2, .int p2)]) (by decide +kernel) (Nat.le_of_ble_eq_true rfl) rfl ?_
  unfold f_X12_input
  refine zs_aload_n dX12_input_0 rfl 0 rfl ?_
  refine zs_iconst (v := (0 : Int32)) dX12_input_1 ci_0 ?_
  refine zs_putI fl_X12_1 dX12_input_2 (shm_0 hN) rfl ⟨rfl, rfl⟩ (fun m1 => ?_)
  refine zs_aload_n dX12_input_5 rfl 0 rfl ?_
  refine zs_iload_n dX12_input_6 rfl 1 rfl ?_
  refine zs_i2l dX12_input_7 ?_
  refine zs_cV_iR (rest := []) (k_X12_isInput hN _ _) dX12_input_8 lv_X12_262 ok_X12_isInput (zz_rcv_o (shm_0 hN) rfl) (Nat.le_of_ble_eq_true rfl) rfl rfl (Nat.le_of_ble_eq_true rfl) (fun r2 => ?_)
  refine zs_if_ne (tgt := 17) dX12_input_11 (by decide) ?_ ?_
  · refine zs_iload_n dX12_input_17 rfl 2 rfl ?_
    refine zs_ite (fun h3 => ?_) (fun h3 => ?_)
    · refine zs_tswI (tgt := 68) h3 dX12_input_18 (by decide) (by decide) rfl (by decide) ?_
      refine zs_aload_n dX12_input_68 rfl 0 rfl ?_
      refine zs_getR fl_X12_13 dX12_input_69 (shm_0 hN) rfl ?_
      refine zs_bipush (v := (24 : Int32)) dX12_input_72 cb_24 ?_
      refine zs_iload_n dX12_input_74 rfl 1 rfl ?_
      refine zs_iadd dX12_input_75 ?_
      refine zs_ialdG dX12_input_76 (shm_1 hN) ?_
      exact zs_iret dX12_input_77 rfl rfl rfl
    refine zs_ite (fun h4 => ?_) (fun h4 => ?_)
    · refine zs_tswI (tgt := 78) h4 dX12_input_18 (by decide) (by decide) rfl (by decide) ?_
      refine zs_aload_n dX12_input_78 rfl 0 rfl ?_
      refine zs_getR fl_X12_13 dX12_input_79 (shm_0 hN) rfl ?_
      refine zs_bipush (v := (32 : Int32)) dX12_input_82 cb_32 ?_
      refine zs_iload_n dX12_input_84 rfl 1 rfl ?_
      refine zs_iadd dX12_input_85 ?_
      refine zs_ialdG dX12_input_86 (shm_1 hN) ?_
      exact zs_iret dX12_input_87 rfl rfl rfl
    refine zs_ite (fun h5 => ?_) (fun h5 => ?_)
    · refine zs_tswI (tgt := 88) h5 dX12_input_18 (by decide) (by decide) rfl (by decide) ?_
      refine zs_aload_n dX12_input_88 rfl 0 rfl ?_
      refine zs_getR fl_X12_13 dX12_input_89 (shm_0 hN) rfl ?_
      refine zs_bipush (v := (40 : Int32)) dX12_input_92 cb_40 ?_
      refine zs_iload_n dX12_input_94 rfl 1 rfl ?_
      refine zs_iadd dX12_input_95 ?_
      refine zs_ialdG dX12_input_96 (shm_1 hN) ?_
      exact zs_iret dX12_input_97 rfl rfl rfl
    refine zs_ite (fun h6 => ?_) (fun h6 => ?_)
    · refine zs_tswI (tgt := 98) h6 dX12_input_18 (by decide) (by decide) rfl (by decide) ?_
      refine zs_aload_n dX12_input_98 rfl 0 rfl ?_
      refine zs_getR fl_X12_36 dX12_input_99 (shm_0 hN) rfl ?_
      refine zs_iload_n dX12_input_102 rfl 1 rfl ?_
      refine zs_ialdG dX12_input_103 (shm_7 hN) ?_
      exact zs_iret dX12_input_104 rfl rfl rfl
    refine zs_ite (fun h7 => ?_) (fun h7 => ?_)
    · refine zs_tswI (tgt := 105) h7 dX12_input_18 (by decide) (by decide) rfl (by decide) ?_
      refine zs_aload_n dX12_input_105 rfl 0 rfl ?_
      refine zs_getR fl_X12_39 dX12_input_106 (shm_0 hN) rfl ?_
      refine zs_iload_n dX12_input_109 rfl 1 rfl ?_
      refine zs_ialdG dX12_input_110 (shm_8 hN) ?_
      exact zs_iret dX12_input_111 rfl rfl rfl
    refine zs_ite (fun h8 => ?_) (fun h8 => ?_)
    · refine zs_tswI (tgt := 112) h8 dX12_input_18 (by decide) (by decide) rfl (by decide) ?_
      refine zs_aload_n dX12_input_112 rfl 0 rfl ?_
      refine zs_getR fl_X12_13 dX12_input_113 (shm_0 hN) rfl ?_
      refine zs_bipush (v := (66 : Int32)) dX12_input_116 cb_66 ?_
      refine zs_iload_n dX12_input_118 rfl 1 rfl ?_
      refine zs_iadd dX12_input_119 ?_
      refine zs_ialdG dX12_input_120 (shm_1 hN) ?_
      exact zs_iret dX12_input_121 rfl rfl rfl
    refine zs_ite (fun h9 => ?_) (fun h9 => ?_)
    · refine zs_tswI (tgt := 122) h9 dX12_input_18 (by decide) (by decide) rfl (by decide) ?_
      refine zs_aload_n dX12_input_122 rfl 0 rfl ?_
      refine zs_iload_n dX12_input_123 rfl 1 rfl ?_
      refine zs_aload_n dX12_input_124 rfl 0 rfl ?_
      refine zs_getR fl_X12_13 dX12_input_125 (shm_0 hN) rfl ?_
      refine zs_bipush (v := (74 : Int32)) dX12_input_128 cb_74 ?_
      refine zs_ialdC dX12_input_130 (shm_1 hN) vin_74_3531 clp_74 ?_
      refine zs_cV_iW (rest := []) (k_X12_countOf hN _ _ _) dX12_input_131 lv_X12_269 ok_X12_countOf (zz_rcv_o (shm_0 hN) rfl) (Nat.le_of_ble_eq_true rfl) rfl rfl (Nat.le_of_ble_eq_true rfl) (fun r10 m11 => ?_)
      exact zs_iret dX12_input_134 rfl rfl rfl
    refine zs_ite (fun h12 => ?_) (fun h12 => ?_)
    · refine zs_tswI (tgt := 135) h12 dX12_input_18 (by decide) (by decide) rfl (by decide) ?_
      refine zs_aload_n dX12_input_135 rfl 0 rfl ?_
      refine zs_getR fl_X12_13 dX12_input_136 (shm_0 hN) rfl ?_
      refine zs_bipush (v := (48 : Int32)) dX12_input_139 cb_48 ?_
      refine zs_iload_n dX12_input_141 rfl 1 rfl ?_
      refine zs_iadd dX12_input_142 ?_
      refine zs_ialdG dX12_input_143 (shm_1 hN) ?_
      exact zs_iret dX12_input_144 rfl rfl rfl
    refine zs_ite (fun h13 => ?_) (fun h13 => ?_)
    · refine zs_tswI (tgt := 145) h13 dX12_input_18 (by decide) (by decide) rfl (by decide) ?_
      refine zs_aload_n dX12_input_145 rfl 0 rfl ?_
      refine zs_cV_vW (rest := []) (k_X12_laysCurve hN  _) dX12_input_146 lv_X12_312 ok_X12_laysCurve (zz_rcv_o (shm_0 hN) rfl) (Nat.le_of_ble_eq_true rfl) rfl rfl (Nat.le_of_ble_eq_true rfl) (fun m14 => ?_)
      refine zs_aload_n dX12_input_149 rfl 0 rfl ?_
      refine zs_getR fl_X12_63 dX12_input_150 (shm_0 hN) rfl ?_
      refine zs_iload_n dX12_input_153 rfl 1 rfl ?_
      refine zs_zaldG dX12_input_154 (shm_16 hN) ?_
      refine zs_if_eq (tgt := 162) dX12_input_155 (by decide) ?_ ?_
      · refine zs_iconst (v := (0 : Int32)) dX12_input_162 ci_0 ?_
        exact zs_iret dX12_input_163 rfl rfl rfl
      · refine zs_iconst (v := (1 : Int32)) dX12_input_158 ci_1 ?_
        refine zs_goto (tgt := 163) dX12_input_159 (by decide) ?_
        exact zs_iret dX12_input_163 rfl rfl rfl
    refine zs_tswO (tgt := 164) dX12_input_18 (by have eh3 := lv_neT h3 (a := 0) rfl; have eh4 := lv_neT h4 (a := 1) rfl; have eh5 := lv_neT h5 (a := 2) rfl; have eh6 := lv_neT h6 (a := 3) rfl; have eh7 := lv_neT h7 (a := 4) rfl; have eh8 := lv_neT h8 (a := 5) rfl; have eh9 := lv_neT h9 (a := 6) rfl; have eh12 := lv_neT h12 (a := 7) rfl; have eh13 := lv_neT h13 (a := 8) rfl; omega) (by decide) ?_
    refine zs_bipush (v := (-2 : Int32)) dX12_input_164 cb_m2 ?_
    exact zs_iret dX12_input_166 rfl rfl rfl
  · refine zs_bipush (v := (-2 : Int32)) dX12_input_14 cb_m2 ?_
    exact zs_iret dX12_input_16 rfl rfl rfl
/-! X12_flow: PillarDeskModel.flow(II)J -/
theorem dX12_flow_0 : decode cX12_flow 0 = .ok (.aload_n 0, 1) := by decide +kernel
theorem dX12_flow_1 : decode cX12_flow 1 = .ok (.iconst 0, 1) := by decide +kernel
theorem dX12_flow_2 : decode cX12_flow 2 = .ok (.putfield 1, 3) := by decide +kernel
theorem dX12_flow_5 : decode cX12_flow 5 = .ok (.aload_n 0, 1) := by decide +kernel
theorem dX12_flow_6 : decode cX12_flow 6 = .ok (.iload_n 1, 1) := by decide +kernel
theorem dX12_flow_7 : decode cX12_flow 7 = .ok (.i2l, 1) := by decide +kernel
theorem dX12_flow_8 : decode cX12_flow 8 = .ok (.invokevirtual 315, 3) := by decide +kernel
theorem dX12_flow_11 : decode cX12_flow 11 = .ok (.ifCond .ne 7, 3) := by decide +kernel
theorem dX12_flow_14 : decode cX12_flow 14 = .ok (.ldc2_w 318, 3) := by decide +kernel
theorem dX12_flow_17 : decode cX12_flow 17 = .ok (.lreturn, 1) := by decide +kernel
theorem dX12_flow_18 : decode cX12_flow 18 = .ok (.iload_n 2, 1) := by decide +kernel
theorem dX12_flow_19 : decode cX12_flow 19 = .ok (.ifCond .ne 16, 3) := by decide +kernel
theorem dX12_flow_22 : decode cX12_flow 22 = .ok (.aload_n 0, 1) := by decide +kernel
theorem dX12_flow_23 : decode cX12_flow 23 = .ok (.getfield 13, 3) := by decide +kernel
theorem dX12_flow_26 : decode cX12_flow 26 = .ok (.bipush 56, 2) := by decide +kernel
theorem dX12_flow_28 : decode cX12_flow 28 = .ok (.iload_n 1, 1) := by decide +kernel
theorem dX12_flow_29 : decode cX12_flow 29 = .ok (.iadd, 1) := by decide +kernel
theorem dX12_flow_30 : decode cX12_flow 30 = .ok (.iaload, 1) := by decide +kernel
theorem dX12_flow_31 : decode cX12_flow 31 = .ok (.i2l, 1) := by decide +kernel
theorem dX12_flow_32 : decode cX12_flow 32 = .ok (.goto 24, 3) := by decide +kernel
theorem dX12_flow_35 : decode cX12_flow 35 = .ok (.iload_n 2, 1) := by decide +kernel
theorem dX12_flow_36 : decode cX12_flow 36 = .ok (.iconst 1, 1) := by decide +kernel
theorem dX12_flow_37 : decode cX12_flow 37 = .ok (.if_icmp .ne 16, 3) := by decide +kernel
theorem dX12_flow_40 : decode cX12_flow 40 = .ok (.aload_n 0, 1) := by decide +kernel
theorem dX12_flow_41 : decode cX12_flow 41 = .ok (.getfield 13, 3) := by decide +kernel
theorem dX12_flow_44 : decode cX12_flow 44 = .ok (.bipush 75, 2) := by decide +kernel
theorem dX12_flow_46 : decode cX12_flow 46 = .ok (.iload_n 1, 1) := by decide +kernel
theorem dX12_flow_47 : decode cX12_flow 47 = .ok (.iadd, 1) := by decide +kernel
theorem dX12_flow_48 : decode cX12_flow 48 = .ok (.iaload, 1) := by decide +kernel
theorem dX12_flow_49 : decode cX12_flow 49 = .ok (.i2l, 1) := by decide +kernel
theorem dX12_flow_50 : decode cX12_flow 50 = .ok (.goto 6, 3) := by decide +kernel
theorem dX12_flow_53 : decode cX12_flow 53 = .ok (.ldc2_w 318, 3) := by decide +kernel
theorem dX12_flow_56 : decode cX12_flow 56 = .ok (.lreturn, 1) := by decide +kernel
def f_X12_flow  (p1 : Int32) (p2 : Int32) (m : zz_Mem) : Option (Int64 × zz_Mem) :=
  zz_letM (zz_setI m 0 0 (0 : Int32)) fun m1 =>
  zz_bndR (f_X12_isFlow m1 p1.toInt64) fun r2 =>
  if r2 = 0 then (
  some ((-9000000000000000002 : Int64), m1))
  else (
  if p2 = 0 then (
  zz_ix ((56 : Int32) + p1) 3531 <|
  some ((m1.1 1 ((56 : Int32) + p1).toNatClampNeg).toInt64, m1))
  else (
  if p2 = (1 : Int32) then (
  zz_ix ((75 : Int32) + p1) 3531 <|
  some ((m1.1 1 ((75 : Int32) + p1).toNatClampNeg).toInt64, m1))
  else (
  some ((-9000000000000000002 : Int64), m1))))
theorem k_X12_flow {l : Launch} {G : zz_G} (hN : 26 ≤ zz_N G) : ∀ (p1 : Int32) (p2 : Int32) (m : zz_Mem), zz_Con zz_shM l G mX12_flow 2 [.ref (zz_a G 0), .int p1, .int p2] zz_vJ zz_m2 (f_X12_flow p1 p2 m) m := by
  intro p1 p2 m
  refine zz_con (lv := [(0, .ref (zz_a G 0)), (1, .int p1), (2, .int p2)]) (by decide +kernel) (Nat.le_of_ble_eq_true rfl) rfl ?_
  unfold f_X12_flow
  refine zs_aload_n dX12_flow_0 rfl 0 rfl ?_
  refine zs_iconst (v := (0 : Int32)) dX12_flow_1 ci_0 ?_
  refine zs_putI fl_X12_1 dX12_flow_2 (shm_0 hN) rfl ⟨rfl, rfl⟩ (fun m1 => ?_)
  refine zs_aload_n dX12_flow_5 rfl 0 rfl ?_
  refine zs_iload_n dX12_flow_6 rfl 1 rfl ?_
  refine zs_i2l dX12_flow_7 ?_
  refine zs_cV_iR (rest := []) (k_X12_isFlow hN _ _) dX12_flow_8 lv_X12_315 ok_X12_isFlow (zz_rcv_o (shm_0 hN) rfl) (Nat.le_of_ble_eq_true rfl) rfl rfl (Nat.le_of_ble_eq_true rfl) (fun r2 => ?_)
  refine zs_if_ne (tgt := 18) dX12_flow_11 (by decide) ?_ ?_
  · refine zs_iload_n dX12_flow_18 rfl 2 rfl ?_
    refine zs_if_ne (tgt := 35) dX12_flow_19 (by decide) ?_ ?_
    · refine zs_iload_n dX12_flow_35 rfl 2 rfl ?_
      refine zs_iconst (v := (1 : Int32)) dX12_flow_36 ci_1 ?_
      refine zs_icmp_ne (tgt := 53) dX12_flow_37 (by decide) ?_ ?_
      · refine zs_ldc2 (v := (-9000000000000000002 : Int64)) dX12_flow_53 kc_X12_318 ?_
        exact zs_lret dX12_flow_56 rfl rfl rfl
      · refine zs_aload_n dX12_flow_40 rfl 0 rfl ?_
        refine zs_getR fl_X12_13 dX12_flow_41 (shm_0 hN) rfl ?_
        refine zs_bipush (v := (75 : Int32)) dX12_flow_44 cb_75 ?_
        refine zs_iload_n dX12_flow_46 rfl 1 rfl ?_
        refine zs_iadd dX12_flow_47 ?_
        refine zs_ialdG dX12_flow_48 (shm_1 hN) ?_
        refine zs_i2l dX12_flow_49 ?_
        refine zs_goto (tgt := 56) dX12_flow_50 (by decide) ?_
        exact zs_lret dX12_flow_56 rfl rfl rfl
    · refine zs_aload_n dX12_flow_22 rfl 0 rfl ?_
      refine zs_getR fl_X12_13 dX12_flow_23 (shm_0 hN) rfl ?_
      refine zs_bipush (v := (56 : Int32)) dX12_flow_26 cb_56 ?_
      refine zs_iload_n dX12_flow_28 rfl 1 rfl ?_
      refine zs_iadd dX12_flow_29 ?_
      refine zs_ialdG dX12_flow_30 (shm_1 hN) ?_
      refine zs_i2l dX12_flow_31 ?_
      refine zs_goto (tgt := 56) dX12_flow_32 (by decide) ?_
      exact zs_lret dX12_flow_56 rfl rfl rfl
  · refine zs_ldc2 (v := (-9000000000000000002 : Int64)) dX12_flow_14 kc_X12_318 ?_
    exact zs_lret dX12_flow_17 rfl rfl rfl
/-! X12_stores: PillarDeskModel.stores()V -/
theorem dX12_stores_0 : decode cX12_stores 0 = .ok (.iconst 0, 1) := by decide +kernel
theorem dX12_stores_1 : decode cX12_stores 1 = .ok (.istore_n 1, 1) := by decide +kernel
theorem dX12_stores_2 : decode cX12_stores 2 = .ok (.iload_n 1, 1) := by decide +kernel
theorem dX12_stores_3 : decode cX12_stores 3 = .ok (.bipush 19, 2) := by decide +kernel
theorem dX12_stores_5 : decode cX12_stores 5 = .ok (.if_icmp .ge 24, 3) := by decide +kernel
theorem dX12_stores_8 : decode cX12_stores 8 = .ok (.aload_n 0, 1) := by decide +kernel
theorem dX12_stores_9 : decode cX12_stores 9 = .ok (.getfield 66, 3) := by decide +kernel
theorem dX12_stores_12 : decode cX12_stores 12 = .ok (.iload_n 1, 1) := by decide +kernel
theorem dX12_stores_13 : decode cX12_stores 13 = .ok (.aload_n 0, 1) := by decide +kernel
theorem dX12_stores_14 : decode cX12_stores 14 = .ok (.getfield 13, 3) := by decide +kernel
theorem dX12_stores_17 : decode cX12_stores 17 = .ok (.bipush 66, 2) := by decide +kernel
theorem dX12_stores_19 : decode cX12_stores 19 = .ok (.iload_n 1, 1) := by decide +kernel
theorem dX12_stores_20 : decode cX12_stores 20 = .ok (.iadd, 1) := by decide +kernel
theorem dX12_stores_21 : decode cX12_stores 21 = .ok (.iaload, 1) := by decide +kernel
theorem dX12_stores_22 : decode cX12_stores 22 = .ok (.iastore, 1) := by decide +kernel
theorem dX12_stores_23 : decode cX12_stores 23 = .ok (.iinc 1 1, 3) := by decide +kernel
theorem dX12_stores_26 : decode cX12_stores 26 = .ok (.goto (-24), 3) := by decide +kernel
theorem dX12_stores_29 : decode cX12_stores 29 = .ok (.return_, 1) := by decide +kernel
def f_X12_stores_2   : Nat → Int32 → zz_Mem → Option zz_Mem
  | 0, _, _ => none
  | n + 1, v1, m =>
  if (19 : Int32) ≤ v1 then (
  some m)
  else (
  zz_ix ((66 : Int32) + v1) 3531 <|
  zz_ix v1 19 <| zz_letM (zz_setI m 17 v1.toNatClampNeg (m.1 1 ((66 : Int32) + v1).toNatClampNeg)) fun m1 =>
  zz_letI (v1 + (1 : Int32)) fun x2 =>
  f_X12_stores_2 n x2 m1)
theorem t_X12_stores_2 {l : Launch} {G : zz_G} (hN : 26 ≤ zz_N G)  : ∀ (n : Nat) (v1 : Int32) (m : zz_Mem), zz_Sim zz_shM l G mX12_stores 0 zz_vV zz_mV (f_X12_stores_2 n v1 m) 2 [(0, .ref (zz_a G 0)), (1, .int v1)] [] m := by
  intro n
  induction n with
  | zero => intro _ _; exact zs_none
  | succ n ih =>
    intro v1 m
    rw [f_X12_stores_2]
    refine zs_iload_n dX12_stores_2 rfl 1 rfl ?_
    refine zs_bipush (v := (19 : Int32)) dX12_stores_3 cb_19 ?_
    refine zs_icmp_ge (tgt := 29) dX12_stores_5 (by decide) ?_ ?_
    · exact zs_vret dX12_stores_29 rfl rfl rfl
    · refine zs_aload_n dX12_stores_8 rfl 0 rfl ?_
      refine zs_getR fl_X12_66 dX12_stores_9 (shm_0 hN) rfl ?_
      refine zs_iload_n dX12_stores_12 rfl 1 rfl ?_
      refine zs_aload_n dX12_stores_13 rfl 0 rfl ?_
      refine zs_getR fl_X12_13 dX12_stores_14 (shm_0 hN) rfl ?_
      refine zs_bipush (v := (66 : Int32)) dX12_stores_17 cb_66 ?_
      refine zs_iload_n dX12_stores_19 rfl 1 rfl ?_
      refine zs_iadd dX12_stores_20 ?_
      refine zs_ialdG dX12_stores_21 (shm_1 hN) ?_
      refine zs_iastG dX12_stores_22 (shm_17 hN) (fun m1 => ?_)
      refine zs_iinc (fun y => [(1, .int y), (0, .ref (zz_a G 0))]) dX12_stores_23 1 rfl ci_1 (Nat.le_of_ble_eq_true rfl) (fun _ => rfl) (fun x2 => ?_)
      refine zs_goto (tgt := 2) dX12_stores_26 (by decide) ?_
      refine zs_sub [1, 0] rfl ?_
      exact ih _ _
def f_X12_stores   (m : zz_Mem) : Option zz_Mem :=
  f_X12_stores_2 zz_fuel (0 : Int32) m
theorem k_X12_stores {l : Launch} {G : zz_G} (hN : 26 ≤ zz_N G) : ∀ (m : zz_Mem), zz_Con zz_shM l G mX12_stores 0 [.ref (zz_a G 0)] zz_vV zz_mV (f_X12_stores m) m := by
  intro m
  refine zz_con (lv := [(0, .ref (zz_a G 0))]) (by decide +kernel) (Nat.le_of_ble_eq_true rfl) rfl ?_
  unfold f_X12_stores
  refine zs_iconst (v := (0 : Int32)) dX12_stores_0 ci_0 ?_
  refine zs_istore_n [(1, .int (0 : Int32)), (0, .ref (zz_a G 0))] dX12_stores_1 rfl (Nat.le_of_ble_eq_true rfl) rfl ?_
  refine zs_sub [1, 0] rfl ?_
  exact t_X12_stores_2 hN zz_fuel _ _
/-! X12_isAgain: PillarDeskModel.isAgain()V -/
theorem dX12_isAgain_0 : decode cX12_isAgain 0 = .ok (.iconst 0, 1) := by decide +kernel
theorem dX12_isAgain_1 : decode cX12_isAgain 1 = .ok (.istore_n 1, 1) := by decide +kernel
theorem dX12_isAgain_2 : decode cX12_isAgain 2 = .ok (.iload_n 1, 1) := by decide +kernel
theorem dX12_isAgain_3 : decode cX12_isAgain 3 = .ok (.bipush 19, 2) := by decide +kernel
theorem dX12_isAgain_5 : decode cX12_isAgain 5 = .ok (.if_icmp .ge 24, 3) := by decide +kernel
theorem dX12_isAgain_8 : decode cX12_isAgain 8 = .ok (.aload_n 0, 1) := by decide +kernel
theorem dX12_isAgain_9 : decode cX12_isAgain 9 = .ok (.getfield 13, 3) := by decide +kernel
theorem dX12_isAgain_12 : decode cX12_isAgain 12 = .ok (.bipush 66, 2) := by decide +kernel
theorem dX12_isAgain_14 : decode cX12_isAgain 14 = .ok (.iload_n 1, 1) := by decide +kernel
theorem dX12_isAgain_15 : decode cX12_isAgain 15 = .ok (.iadd, 1) := by decide +kernel
theorem dX12_isAgain_16 : decode cX12_isAgain 16 = .ok (.aload_n 0, 1) := by decide +kernel
theorem dX12_isAgain_17 : decode cX12_isAgain 17 = .ok (.getfield 66, 3) := by decide +kernel
theorem dX12_isAgain_20 : decode cX12_isAgain 20 = .ok (.iload_n 1, 1) := by decide +kernel
theorem dX12_isAgain_21 : decode cX12_isAgain 21 = .ok (.iaload, 1) := by decide +kernel
theorem dX12_isAgain_22 : decode cX12_isAgain 22 = .ok (.iastore, 1) := by decide +kernel
theorem dX12_isAgain_23 : decode cX12_isAgain 23 = .ok (.iinc 1 1, 3) := by decide +kernel
theorem dX12_isAgain_26 : decode cX12_isAgain 26 = .ok (.goto (-24), 3) := by decide +kernel
theorem dX12_isAgain_29 : decode cX12_isAgain 29 = .ok (.return_, 1) := by decide +kernel
def f_X12_isAgain_2   : Nat → Int32 → zz_Mem → Option zz_Mem
  | 0, _, _ => none
  | n + 1, v1, m =>
  if (19 : Int32) ≤ v1 then (
  some m)
  else (
  zz_ix v1 19 <|
  zz_ix ((66 : Int32) + v1) 3531 <| zz_letM (zz_setI m 1 ((66 : Int32) + v1).toNatClampNeg (m.1 17 v1.toNatClampNeg)) fun m1 =>
  zz_letI (v1 + (1 : Int32)) fun x2 =>
  f_X12_isAgain_2 n x2 m1)
theorem t_X12_isAgain_2 {l : Launch} {G : zz_G} (hN : 26 ≤ zz_N G)  : ∀ (n : Nat) (v1 : Int32) (m : zz_Mem), zz_Sim zz_shM l G mX12_isAgain 0 zz_vV zz_mV (f_X12_isAgain_2 n v1 m) 2 [(0, .ref (zz_a G 0)), (1, .int v1)] [] m := by
  intro n
  induction n with
  | zero => intro _ _; exact zs_none
  | succ n ih =>
    intro v1 m
    rw [f_X12_isAgain_2]
    refine zs_iload_n dX12_isAgain_2 rfl 1 rfl ?_
    refine zs_bipush (v := (19 : Int32)) dX12_isAgain_3 cb_19 ?_
    refine zs_icmp_ge (tgt := 29) dX12_isAgain_5 (by decide) ?_ ?_
    · exact zs_vret dX12_isAgain_29 rfl rfl rfl
    · refine zs_aload_n dX12_isAgain_8 rfl 0 rfl ?_
      refine zs_getR fl_X12_13 dX12_isAgain_9 (shm_0 hN) rfl ?_
      refine zs_bipush (v := (66 : Int32)) dX12_isAgain_12 cb_66 ?_
      refine zs_iload_n dX12_isAgain_14 rfl 1 rfl ?_
      refine zs_iadd dX12_isAgain_15 ?_
      refine zs_aload_n dX12_isAgain_16 rfl 0 rfl ?_
      refine zs_getR fl_X12_66 dX12_isAgain_17 (shm_0 hN) rfl ?_
      refine zs_iload_n dX12_isAgain_20 rfl 1 rfl ?_
      refine zs_ialdG dX12_isAgain_21 (shm_17 hN) ?_
      refine zs_iastG dX12_isAgain_22 (shm_1 hN) (fun m1 => ?_)
      refine zs_iinc (fun y => [(1, .int y), (0, .ref (zz_a G 0))]) dX12_isAgain_23 1 rfl ci_1 (Nat.le_of_ble_eq_true rfl) (fun _ => rfl) (fun x2 => ?_)
      refine zs_goto (tgt := 2) dX12_isAgain_26 (by decide) ?_
      refine zs_sub [1, 0] rfl ?_
      exact ih _ _
def f_X12_isAgain   (m : zz_Mem) : Option zz_Mem :=
  f_X12_isAgain_2 zz_fuel (0 : Int32) m
theorem k_X12_isAgain {l : Launch} {G : zz_G} (hN : 26 ≤ zz_N G) : ∀ (m : zz_Mem), zz_Con zz_shM l G mX12_isAgain 0 [.ref (zz_a G 0)] zz_vV zz_mV (f_X12_isAgain m) m := by
  intro m
  refine zz_con (lv := [(0, .ref (zz_a G 0))]) (by decide +kernel) (Nat.le_of_ble_eq_true rfl) rfl ?_
  unfold f_X12_isAgain
  refine zs_iconst (v := (0 : Int32)) dX12_isAgain_0 ci_0 ?_
  refine zs_istore_n [(1, .int (0 : Int32)), (0, .ref (zz_a G 0))] dX12_isAgain_1 rfl (Nat.le_of_ble_eq_true rfl) rfl ?_
  refine zs_sub [1, 0] rfl ?_
  exact t_X12_isAgain_2 hN zz_fuel _ _
/-! X12_notes: PillarDeskModel.notes()V -/
theorem dX12_notes_0 : decode cX12_notes 0 = .ok (.aload_n 0, 1) := by decide +kernel
theorem dX12_notes_1 : decode cX12_notes 1 = .ok (.getfield 13, 3) := by decide +kernel
theorem dX12_notes_4 : decode cX12_notes 4 = .ok (.bipush 85, 2) := by decide +kernel
theorem dX12_notes_6 : decode cX12_notes 6 = .ok (.iaload, 1) := by decide +kernel
theorem dX12_notes_7 : decode cX12_notes 7 = .ok (.bipush 10, 2) := by decide +kernel
theorem dX12_notes_9 : decode cX12_notes 9 = .ok (.if_icmp .ne 47, 3) := by decide +kernel
theorem dX12_notes_12 : decode cX12_notes 12 = .ok (.iconst 0, 1) := by decide +kernel
theorem dX12_notes_13 : decode cX12_notes 13 = .ok (.istore_n 1, 1) := by decide +kernel
theorem dX12_notes_14 : decode cX12_notes 14 = .ok (.iload_n 1, 1) := by decide +kernel
theorem dX12_notes_15 : decode cX12_notes 15 = .ok (.sipush 171, 3) := by decide +kernel
theorem dX12_notes_18 : decode cX12_notes 18 = .ok (.if_icmp .ge 27, 3) := by decide +kernel
theorem dX12_notes_21 : decode cX12_notes 21 = .ok (.aload_n 0, 1) := by decide +kernel
theorem dX12_notes_22 : decode cX12_notes 22 = .ok (.getfield 13, 3) := by decide +kernel
theorem dX12_notes_25 : decode cX12_notes 25 = .ok (.bipush 86, 2) := by decide +kernel
theorem dX12_notes_27 : decode cX12_notes 27 = .ok (.iload_n 1, 1) := by decide +kernel
theorem dX12_notes_28 : decode cX12_notes 28 = .ok (.iadd, 1) := by decide +kernel
theorem dX12_notes_29 : decode cX12_notes 29 = .ok (.aload_n 0, 1) := by decide +kernel
theorem dX12_notes_30 : decode cX12_notes 30 = .ok (.getfield 13, 3) := by decide +kernel
theorem dX12_notes_33 : decode cX12_notes 33 = .ok (.bipush 105, 2) := by decide +kernel
theorem dX12_notes_35 : decode cX12_notes 35 = .ok (.iload_n 1, 1) := by decide +kernel
theorem dX12_notes_36 : decode cX12_notes 36 = .ok (.iadd, 1) := by decide +kernel
theorem dX12_notes_37 : decode cX12_notes 37 = .ok (.iaload, 1) := by decide +kernel
theorem dX12_notes_38 : decode cX12_notes 38 = .ok (.iastore, 1) := by decide +kernel
theorem dX12_notes_39 : decode cX12_notes 39 = .ok (.iinc 1 1, 3) := by decide +kernel
theorem dX12_notes_42 : decode cX12_notes 42 = .ok (.goto (-28), 3) := by decide +kernel
theorem dX12_notes_45 : decode cX12_notes 45 = .ok (.aload_n 0, 1) := by decide +kernel
theorem dX12_notes_46 : decode cX12_notes 46 = .ok (.getfield 13, 3) := by decide +kernel
theorem dX12_notes_49 : decode cX12_notes 49 = .ok (.bipush 85, 2) := by decide +kernel
theorem dX12_notes_51 : decode cX12_notes 51 = .ok (.dup2, 1) := by decide +kernel
theorem dX12_notes_52 : decode cX12_notes 52 = .ok (.iaload, 1) := by decide +kernel
theorem dX12_notes_53 : decode cX12_notes 53 = .ok (.iconst 1, 1) := by decide +kernel
theorem dX12_notes_54 : decode cX12_notes 54 = .ok (.isub, 1) := by decide +kernel
theorem dX12_notes_55 : decode cX12_notes 55 = .ok (.iastore, 1) := by decide +kernel
theorem dX12_notes_56 : decode cX12_notes 56 = .ok (.iconst 0, 1) := by decide +kernel
theorem dX12_notes_57 : decode cX12_notes 57 = .ok (.istore_n 1, 1) := by decide +kernel
theorem dX12_notes_58 : decode cX12_notes 58 = .ok (.iload_n 1, 1) := by decide +kernel
theorem dX12_notes_59 : decode cX12_notes 59 = .ok (.bipush 19, 2) := by decide +kernel
theorem dX12_notes_61 : decode cX12_notes 61 = .ok (.if_icmp .ge 35, 3) := by decide +kernel
theorem dX12_notes_64 : decode cX12_notes 64 = .ok (.aload_n 0, 1) := by decide +kernel
theorem dX12_notes_65 : decode cX12_notes 65 = .ok (.getfield 13, 3) := by decide +kernel
theorem dX12_notes_68 : decode cX12_notes 68 = .ok (.bipush 86, 2) := by decide +kernel
theorem dX12_notes_70 : decode cX12_notes 70 = .ok (.bipush 19, 2) := by decide +kernel
theorem dX12_notes_72 : decode cX12_notes 72 = .ok (.aload_n 0, 1) := by decide +kernel
theorem dX12_notes_73 : decode cX12_notes 73 = .ok (.getfield 13, 3) := by decide +kernel
theorem dX12_notes_76 : decode cX12_notes 76 = .ok (.bipush 85, 2) := by decide +kernel
theorem dX12_notes_78 : decode cX12_notes 78 = .ok (.iaload, 1) := by decide +kernel
theorem dX12_notes_79 : decode cX12_notes 79 = .ok (.imul, 1) := by decide +kernel
theorem dX12_notes_80 : decode cX12_notes 80 = .ok (.iadd, 1) := by decide +kernel
theorem dX12_notes_81 : decode cX12_notes 81 = .ok (.iload_n 1, 1) := by decide +kernel
theorem dX12_notes_82 : decode cX12_notes 82 = .ok (.iadd, 1) := by decide +kernel
theorem dX12_notes_83 : decode cX12_notes 83 = .ok (.aload_n 0, 1) := by decide +kernel
theorem dX12_notes_84 : decode cX12_notes 84 = .ok (.getfield 66, 3) := by decide +kernel
theorem dX12_notes_87 : decode cX12_notes 87 = .ok (.iload_n 1, 1) := by decide +kernel
theorem dX12_notes_88 : decode cX12_notes 88 = .ok (.iaload, 1) := by decide +kernel
theorem dX12_notes_89 : decode cX12_notes 89 = .ok (.iastore, 1) := by decide +kernel
theorem dX12_notes_90 : decode cX12_notes 90 = .ok (.iinc 1 1, 3) := by decide +kernel
theorem dX12_notes_93 : decode cX12_notes 93 = .ok (.goto (-35), 3) := by decide +kernel
theorem dX12_notes_96 : decode cX12_notes 96 = .ok (.aload_n 0, 1) := by decide +kernel
theorem dX12_notes_97 : decode cX12_notes 97 = .ok (.getfield 13, 3) := by decide +kernel
theorem dX12_notes_100 : decode cX12_notes 100 = .ok (.bipush 85, 2) := by decide +kernel
theorem dX12_notes_102 : decode cX12_notes 102 = .ok (.dup2, 1) := by decide +kernel
theorem dX12_notes_103 : decode cX12_notes 103 = .ok (.iaload, 1) := by decide +kernel
theorem dX12_notes_104 : decode cX12_notes 104 = .ok (.iconst 1, 1) := by decide +kernel
theorem dX12_notes_105 : decode cX12_notes 105 = .ok (.iadd, 1) := by decide +kernel
theorem dX12_notes_106 : decode cX12_notes 106 = .ok (.iastore, 1) := by decide +kernel
theorem dX12_notes_107 : decode cX12_notes 107 = .ok (.return_, 1) := by decide +kernel
def f_X12_notes_96   (m : zz_Mem) : Option zz_Mem :=
  zz_letM (zz_setI m 1 85 ((m.1 1 85) + (1 : Int32))) fun m1 =>
  some m1
theorem t_X12_notes_96 {l : Launch} {G : zz_G} (hN : 26 ≤ zz_N G)  : ∀ (m : zz_Mem), zz_Sim zz_shM l G mX12_notes 0 zz_vV zz_mV (f_X12_notes_96 m) 96 [(0, .ref (zz_a G 0))] [] m := by
  intro m
  unfold f_X12_notes_96
  refine zs_aload_n dX12_notes_96 rfl 0 rfl ?_
  refine zs_getR fl_X12_13 dX12_notes_97 (shm_0 hN) rfl ?_
  refine zs_bipush (v := (85 : Int32)) dX12_notes_100 cb_85 ?_
  refine zs_dup2_11 dX12_notes_102 rfl rfl ?_
  refine zs_ialdC dX12_notes_103 (shm_1 hN) vin_85_3531 clp_85 ?_
  refine zs_iconst (v := (1 : Int32)) dX12_notes_104 ci_1 ?_
  refine zs_iadd dX12_notes_105 ?_
  refine zs_iastC dX12_notes_106 (shm_1 hN) vin_85_3531 clp_85 (fun m1 => ?_)
  exact zs_vret dX12_notes_107 rfl rfl rfl
def f_X12_notes_58   : Nat → Int32 → zz_Mem → Option zz_Mem
  | 0, _, _ => none
  | n + 1, v1, m =>
  if (19 : Int32) ≤ v1 then (
  f_X12_notes_96 m)
  else (
  zz_ix v1 19 <|
  zz_ix (((86 : Int32) + ((19 : Int32) * (m.1 1 85))) + v1) 3531 <| zz_letM (zz_setI m 1 (((86 : Int32) + ((19 : Int32) * (m.1 1 85))) + v1).toNatClampNeg (m.1 17 v1.toNatClampNeg)) fun m1 =>
  zz_letI (v1 + (1 : Int32)) fun x2 =>
  f_X12_notes_58 n x2 m1)
theorem t_X12_notes_58 {l : Launch} {G : zz_G} (hN : 26 ≤ zz_N G)  : ∀ (n : Nat) (v1 : Int32) (m : zz_Mem), zz_Sim zz_shM l G mX12_notes 0 zz_vV zz_mV (f_X12_notes_58 n v1 m) 58 [(0, .ref (zz_a G 0)), (1, .int v1)] [] m := by
  intro n
  induction n with
  | zero => intro _ _; exact zs_none
  | succ n ih =>
    intro v1 m
    rw [f_X12_notes_58]
    refine zs_iload_n dX12_notes_58 rfl 1 rfl ?_
    refine zs_bipush (v := (19 : Int32)) dX12_notes_59 cb_19 ?_
    refine zs_icmp_ge (tgt := 96) dX12_notes_61 (by decide) ?_ ?_
    · refine zs_sub [0] rfl ?_
      exact t_X12_notes_96 hN _
    · refine zs_aload_n dX12_notes_64 rfl 0 rfl ?_
      refine zs_getR fl_X12_13 dX12_notes_65 (shm_0 hN) rfl ?_
      refine zs_bipush (v := (86 : Int32)) dX12_notes_68 cb_86 ?_
      refine zs_bipush (v := (19 : Int32)) dX12_notes_70 cb_19 ?_
      refine zs_aload_n dX12_notes_72 rfl 0 rfl ?_
      refine zs_getR fl_X12_13 dX12_notes_73 (shm_0 hN) rfl ?_
      refine zs_bipush (v := (85 : Int32)) dX12_notes_76 cb_85 ?_
      refine zs_ialdC dX12_notes_78 (shm_1 hN) vin_85_3531 clp_85 ?_
      refine zs_imul dX12_notes_79 ?_
      refine zs_iadd dX12_notes_80 ?_
      refine zs_iload_n dX12_notes_81 rfl 1 rfl ?_
      refine zs_iadd dX12_notes_82 ?_
      refine zs_aload_n dX12_notes_83 rfl 0 rfl ?_
      refine zs_getR fl_X12_66 dX12_notes_84 (shm_0 hN) rfl ?_
      refine zs_iload_n dX12_notes_87 rfl 1 rfl ?_
      refine zs_ialdG dX12_notes_88 (shm_17 hN) ?_
      refine zs_iastG dX12_notes_89 (shm_1 hN) (fun m1 => ?_)
      refine zs_iinc (fun y => [(1, .int y), (0, .ref (zz_a G 0))]) dX12_notes_90 1 rfl ci_1 (Nat.le_of_ble_eq_true rfl) (fun _ => rfl) (fun x2 => ?_)
      refine zs_goto (tgt := 58) dX12_notes_93 (by decide) ?_
      refine zs_sub [1, 0] rfl ?_
      exact ih _ _
def f_X12_notes_45   (m : zz_Mem) : Option zz_Mem :=
  zz_letM (zz_setI m 1 85 ((m.1 1 85) - (1 : Int32))) fun m1 =>
  f_X12_notes_58 zz_fuel (0 : Int32) m1
theorem t_X12_notes_45 {l : Launch} {G : zz_G} (hN : 26 ≤ zz_N G)  : ∀ (m : zz_Mem), zz_Sim zz_shM l G mX12_notes 0 zz_vV zz_mV (f_X12_notes_45 m) 45 [(0, .ref (zz_a G 0))] [] m := by
  intro m
  unfold f_X12_notes_45
  refine zs_aload_n dX12_notes_45 rfl 0 rfl ?_
  refine zs_getR fl_X12_13 dX12_notes_46 (shm_0 hN) rfl ?_
  refine zs_bipush (v := (85 : Int32)) dX12_notes_49 cb_85 ?_
  refine zs_dup2_11 dX12_notes_51 rfl rfl ?_
  refine zs_ialdC dX12_notes_52 (shm_1 hN) vin_85_3531 clp_85 ?_
  refine zs_iconst (v := (1 : Int32)) dX12_notes_53 ci_1 ?_
  refine zs_isub dX12_notes_54 ?_
  refine zs_iastC dX12_notes_55 (shm_1 hN) vin_85_3531 clp_85 (fun m1 => ?_)
  refine zs_iconst (v := (0 : Int32)) dX12_notes_56 ci_0 ?_
  refine zs_istore_n [(1, .int (0 : Int32)), (0, .ref (zz_a G 0))] dX12_notes_57 rfl (Nat.le_of_ble_eq_true rfl) rfl ?_
  refine zs_sub [1, 0] rfl ?_
  exact t_X12_notes_58 hN zz_fuel _ _
def f_X12_notes_14   : Nat → Int32 → zz_Mem → Option zz_Mem
  | 0, _, _ => none
  | n + 1, v1, m =>
  if (171 : Int32) ≤ v1 then (
  f_X12_notes_45 m)
  else (
  zz_ix ((105 : Int32) + v1) 3531 <|
  zz_ix ((86 : Int32) + v1) 3531 <| zz_letM (zz_setI m 1 ((86 : Int32) + v1).toNatClampNeg (m.1 1 ((105 : Int32) + v1).toNatClampNeg)) fun m1 =>
  zz_letI (v1 + (1 : Int32)) fun x2 =>
  f_X12_notes_14 n x2 m1)
theorem t_X12_notes_14 {l : Launch} {G : zz_G} (hN : 26 ≤ zz_N G)  : ∀ (n : Nat) (v1 : Int32) (m : zz_Mem), zz_Sim zz_shM l G mX12_notes 0 zz_vV zz_mV (f_X12_notes_14 n v1 m) 14 [(0, .ref (zz_a G 0)), (1, .int v1)] [] m := by
  intro n
  induction n with
  | zero => intro _ _; exact zs_none
  | succ n ih =>
    intro v1 m
    rw [f_X12_notes_14]
    refine zs_iload_n dX12_notes_14 rfl 1 rfl ?_
    refine zs_sipush (v := (171 : Int32)) dX12_notes_15 cs_171 ?_
    refine zs_icmp_ge (tgt := 45) dX12_notes_18 (by decide) ?_ ?_
    · refine zs_sub [0] rfl ?_
      exact t_X12_notes_45 hN _
    · refine zs_aload_n dX12_notes_21 rfl 0 rfl ?_
      refine zs_getR fl_X12_13 dX12_notes_22 (shm_0 hN) rfl ?_
      refine zs_bipush (v := (86 : Int32)) dX12_notes_25 cb_86 ?_
      refine zs_iload_n dX12_notes_27 rfl 1 rfl ?_
      refine zs_iadd dX12_notes_28 ?_
      refine zs_aload_n dX12_notes_29 rfl 0 rfl ?_
      refine zs_getR fl_X12_13 dX12_notes_30 (shm_0 hN) rfl ?_
      refine zs_bipush (v := (105 : Int32)) dX12_notes_33 cb_105 ?_
      refine zs_iload_n dX12_notes_35 rfl 1 rfl ?_
      refine zs_iadd dX12_notes_36 ?_
      refine zs_ialdG dX12_notes_37 (shm_1 hN) ?_
      refine zs_iastG dX12_notes_38 (shm_1 hN) (fun m1 => ?_)
      refine zs_iinc (fun y => [(1, .int y), (0, .ref (zz_a G 0))]) dX12_notes_39 1 rfl ci_1 (Nat.le_of_ble_eq_true rfl) (fun _ => rfl) (fun x2 => ?_)
      refine zs_goto (tgt := 14) dX12_notes_42 (by decide) ?_
      refine zs_sub [1, 0] rfl ?_
      exact ih _ _
def f_X12_notes   (m : zz_Mem) : Option zz_Mem :=
  if (m.1 1 85) = (10 : Int32) then (
  f_X12_notes_14 zz_fuel (0 : Int32) m)
  else (
  f_X12_notes_58 zz_fuel (0 : Int32) m)
theorem k_X12_notes {l : Launch} {G : zz_G} (hN : 26 ≤ zz_N G) : ∀ (m : zz_Mem), zz_Con zz_shM l G mX12_notes 0 [.ref (zz_a G 0)] zz_vV zz_mV (f_X12_notes m) m := by
  intro m
  refine zz_con (lv := [(0, .ref (zz_a G 0))]) (by decide +kernel) (Nat.le_of_ble_eq_true rfl) rfl ?_
  unfold f_X12_notes
  refine zs_aload_n dX12_notes_0 rfl 0 rfl ?_
  refine zs_getR fl_X12_13 dX12_notes_1 (shm_0 hN) rfl ?_
  refine zs_bipush (v := (85 : Int32)) dX12_notes_4 cb_85 ?_
  refine zs_ialdC dX12_notes_6 (shm_1 hN) vin_85_3531 clp_85 ?_
  refine zs_bipush (v := (10 : Int32)) dX12_notes_7 cb_10 ?_
  refine zs_icmp_ne (tgt := 56) dX12_notes_9 (by decide) ?_ ?_
  · refine zs_iconst (v := (0 : Int32)) dX12_notes_56 ci_0 ?_
    refine zs_istore_n [(1, .int (0 : Int32)), (0, .ref (zz_a G 0))] dX12_notes_57 rfl (Nat.le_of_ble_eq_true rfl) rfl ?_
    refine zs_sub [1, 0] rfl ?_
    exact t_X12_notes_58 hN zz_fuel _ _
  · refine zs_iconst (v := (0 : Int32)) dX12_notes_12 ci_0 ?_
    refine zs_istore_n [(1, .int (0 : Int32)), (0, .ref (zz_a G 0))] dX12_notes_13 rfl (Nat.le_of_ble_eq_true rfl) rfl ?_
    refine zs_sub [1, 0] rfl ?_
    exact t_X12_notes_14 hN zz_fuel _ _
/-! X12_whyBump: PillarDeskModel.whyBump(JJ)I -/
theorem dX12_whyBump_0 : decode cX12_whyBump 0 = .ok (.aload_n 0, 1) := by decide +kernel
theorem dX12_whyBump_1 : decode cX12_whyBump 1 = .ok (.lload_n 1, 1) := by decide +kernel
theorem dX12_whyBump_2 : decode cX12_whyBump 2 = .ok (.invokevirtual 262, 3) := by decide +kernel
theorem dX12_whyBump_5 : decode cX12_whyBump 5 = .ok (.ifCond .eq 16, 3) := by decide +kernel
theorem dX12_whyBump_8 : decode cX12_whyBump 8 = .ok (.lload_n 3, 1) := by decide +kernel
theorem dX12_whyBump_9 : decode cX12_whyBump 9 = .ok (.ldc2_w 320, 3) := by decide +kernel
theorem dX12_whyBump_12 : decode cX12_whyBump 12 = .ok (.ldc2_w 260, 3) := by decide +kernel
theorem dX12_whyBump_15 : decode cX12_whyBump 15 = .ok (.invokestatic 163, 3) := by decide +kernel
theorem dX12_whyBump_18 : decode cX12_whyBump 18 = .ok (.ifCond .ne 5, 3) := by decide +kernel
theorem dX12_whyBump_21 : decode cX12_whyBump 21 = .ok (.iconst 1, 1) := by decide +kernel
theorem dX12_whyBump_22 : decode cX12_whyBump 22 = .ok (.ireturn, 1) := by decide +kernel
theorem dX12_whyBump_23 : decode cX12_whyBump 23 = .ok (.aload_n 0, 1) := by decide +kernel
theorem dX12_whyBump_24 : decode cX12_whyBump 24 = .ok (.getfield 13, 3) := by decide +kernel
theorem dX12_whyBump_27 : decode cX12_whyBump 27 = .ok (.bipush 66, 2) := by decide +kernel
theorem dX12_whyBump_29 : decode cX12_whyBump 29 = .ok (.lload_n 1, 1) := by decide +kernel
theorem dX12_whyBump_30 : decode cX12_whyBump 30 = .ok (.l2i, 1) := by decide +kernel
theorem dX12_whyBump_31 : decode cX12_whyBump 31 = .ok (.iadd, 1) := by decide +kernel
theorem dX12_whyBump_32 : decode cX12_whyBump 32 = .ok (.iaload, 1) := by decide +kernel
theorem dX12_whyBump_33 : decode cX12_whyBump 33 = .ok (.i2l, 1) := by decide +kernel
theorem dX12_whyBump_34 : decode cX12_whyBump 34 = .ok (.lload_n 3, 1) := by decide +kernel
theorem dX12_whyBump_35 : decode cX12_whyBump 35 = .ok (.ladd, 1) := by decide +kernel
theorem dX12_whyBump_36 : decode cX12_whyBump 36 = .ok (.lconst 0, 1) := by decide +kernel
theorem dX12_whyBump_37 : decode cX12_whyBump 37 = .ok (.ldc2_w 258, 3) := by decide +kernel
theorem dX12_whyBump_40 : decode cX12_whyBump 40 = .ok (.invokestatic 163, 3) := by decide +kernel
theorem dX12_whyBump_43 : decode cX12_whyBump 43 = .ok (.ifCond .eq 7, 3) := by decide +kernel
theorem dX12_whyBump_46 : decode cX12_whyBump 46 = .ok (.iconst 0, 1) := by decide +kernel
theorem dX12_whyBump_47 : decode cX12_whyBump 47 = .ok (.goto 4, 3) := by decide +kernel
theorem dX12_whyBump_50 : decode cX12_whyBump 50 = .ok (.iconst 2, 1) := by decide +kernel
theorem dX12_whyBump_51 : decode cX12_whyBump 51 = .ok (.ireturn, 1) := by decide +kernel
def f_X12_whyBump (m : zz_Mem) (p1 : Int64) (p3 : Int64) : Option Int32 :=
  zz_bndR (f_X12_isInput m p1) fun r1 =>
  if r1 = 0 then (
  some (1 : Int32))
  else (
  zz_bndR (f_X12_within p3 (-99 : Int64) (99 : Int64)) fun r2 =>
  if r2 = 0 then (
  some (1 : Int32))
  else (
  zz_ix ((66 : Int32) + p1.toInt32) 3531 <|
  zz_bndR (f_X12_within (((m.1 1 ((66 : Int32) + p1.toInt32).toNatClampNeg).toInt64) + p3) (0 : Int64) (999 : Int64)) fun r3 =>
  if r3 = 0 then (
  some (2 : Int32))
  else (
  some (0 : Int32))))
theorem k_X12_whyBump {l : Launch} {G : zz_G} (hN : 26 ≤ zz_N G) : ∀ (p1 : Int64) (p3 : Int64) (m : zz_Mem), zz_Con zz_shM l G mX12_whyBump 2 [.ref (zz_a G 0), .long p1, .long p3] zz_vIr (zz_mC m) (f_X12_whyBump m p1 p3) m := by
  intro p1 p3 m
  refine zz_con (lv := [(0, .ref (zz_a G 0)), (1, .long p1), (3, .long p3)]) (by decide +kernel) (Nat.le_of_ble_eq_true rfl) rfl ?_
  unfold f_X12_whyBump
  refine zs_aload_n dX12_whyBump_0 rfl 0 rfl ?_
  refine zs_lload_n dX12_whyBump_1 rfl 1 rfl ?_
  refine zs_cV_iR (rest := []) (k_X12_isInput hN _ _) dX12_whyBump_2 lv_X12_262 ok_X12_isInput (zz_rcv_o (shm_0 hN) rfl) (Nat.le_of_ble_eq_true rfl) rfl rfl (Nat.le_of_ble_eq_true rfl) (fun r1 => ?_)
  refine zs_if_eq (tgt := 21) dX12_whyBump_5 (by decide) ?_ ?_
  · refine zs_iconst (v := (1 : Int32)) dX12_whyBump_21 ci_1 ?_
    exact zs_iret dX12_whyBump_22 rfl rfl rfl
  · refine zs_lload_n dX12_whyBump_8 rfl 2 rfl ?_
    refine zs_ldc2 (v := (-99 : Int64)) dX12_whyBump_9 kc_X12_320 ?_
    refine zs_ldc2 (v := (99 : Int64)) dX12_whyBump_12 kc_X12_260 ?_
    refine zs_cS_iR (rest := []) (k_X12_within hN _ _ _ _) dX12_whyBump_15 ls_X12_163 ok_X12_within (Nat.le_of_ble_eq_true rfl) rfl rfl (Nat.le_of_ble_eq_true rfl) (fun r2 => ?_)
    refine zs_if_ne (tgt := 23) dX12_whyBump_18 (by decide) ?_ ?_
    · refine zs_aload_n dX12_whyBump_23 rfl 0 rfl ?_
      refine zs_getR fl_X12_13 dX12_whyBump_24 (shm_0 hN) rfl ?_
      refine zs_bipush (v := (66 : Int32)) dX12_whyBump_27 cb_66 ?_
      refine zs_lload_n dX12_whyBump_29 rfl 1 rfl ?_
      refine zs_l2i dX12_whyBump_30 ?_
      refine zs_iadd dX12_whyBump_31 ?_
      refine zs_ialdG dX12_whyBump_32 (shm_1 hN) ?_
      refine zs_i2l dX12_whyBump_33 ?_
      refine zs_lload_n dX12_whyBump_34 rfl 2 rfl ?_
      refine zs_ladd dX12_whyBump_35 ?_
      refine zs_lconst (v := (0 : Int64)) dX12_whyBump_36 rfl ?_
      refine zs_ldc2 (v := (999 : Int64)) dX12_whyBump_37 kc_X12_258 ?_
      refine zs_cS_iR (rest := []) (k_X12_within hN _ _ _ _) dX12_whyBump_40 ls_X12_163 ok_X12_within (Nat.le_of_ble_eq_true rfl) rfl rfl (Nat.le_of_ble_eq_true rfl) (fun r3 => ?_)
      refine zs_if_eq (tgt := 50) dX12_whyBump_43 (by decide) ?_ ?_
      · refine zs_iconst (v := (2 : Int32)) dX12_whyBump_50 ci_2 ?_
        exact zs_iret dX12_whyBump_51 rfl rfl rfl
      · refine zs_iconst (v := (0 : Int32)) dX12_whyBump_46 ci_0 ?_
        refine zs_goto (tgt := 51) dX12_whyBump_47 (by decide) ?_
        exact zs_iret dX12_whyBump_51 rfl rfl rfl
    · refine zs_iconst (v := (1 : Int32)) dX12_whyBump_21 ci_1 ?_
      exact zs_iret dX12_whyBump_22 rfl rfl rfl
/-! X12_whyAmount: PillarDeskModel.whyAmount(JJ)I -/
theorem dX12_whyAmount_0 : decode cX12_whyAmount 0 = .ok (.aload_n 0, 1) := by decide +kernel
theorem dX12_whyAmount_1 : decode cX12_whyAmount 1 = .ok (.lload_n 1, 1) := by decide +kernel
theorem dX12_whyAmount_2 : decode cX12_whyAmount 2 = .ok (.invokevirtual 315, 3) := by decide +kernel
theorem dX12_whyAmount_5 : decode cX12_whyAmount 5 = .ok (.ifCond .eq 20, 3) := by decide +kernel
theorem dX12_whyAmount_8 : decode cX12_whyAmount 8 = .ok (.lload_n 3, 1) := by decide +kernel
theorem dX12_whyAmount_9 : decode cX12_whyAmount 9 = .ok (.ldc2_w 322, 3) := by decide +kernel
theorem dX12_whyAmount_12 : decode cX12_whyAmount 12 = .ok (.ldc2_w 258, 3) := by decide +kernel
theorem dX12_whyAmount_15 : decode cX12_whyAmount 15 = .ok (.invokestatic 163, 3) := by decide +kernel
theorem dX12_whyAmount_18 : decode cX12_whyAmount 18 = .ok (.ifCond .eq 7, 3) := by decide +kernel
theorem dX12_whyAmount_21 : decode cX12_whyAmount 21 = .ok (.iconst 0, 1) := by decide +kernel
theorem dX12_whyAmount_22 : decode cX12_whyAmount 22 = .ok (.goto 4, 3) := by decide +kernel
theorem dX12_whyAmount_25 : decode cX12_whyAmount 25 = .ok (.iconst 1, 1) := by decide +kernel
theorem dX12_whyAmount_26 : decode cX12_whyAmount 26 = .ok (.ireturn, 1) := by decide +kernel
def f_X12_whyAmount (m : zz_Mem) (p1 : Int64) (p3 : Int64) : Option Int32 :=
  zz_bndR (f_X12_isFlow m p1) fun r1 =>
  if r1 = 0 then (
  some (1 : Int32))
  else (
  zz_bndR (f_X12_within p3 (-999 : Int64) (999 : Int64)) fun r2 =>
  if r2 = 0 then (
  some (1 : Int32))
  else (
  some (0 : Int32)))
theorem k_X12_whyAmount {l : Launch} {G : zz_G} (hN : 26 ≤ zz_N G) : ∀ (p1 : Int64) (p3 : Int64) (m : zz_Mem), zz_Con zz_shM l G mX12_whyAmount 2 [.ref (zz_a G 0), .long p1, .long p3] zz_vIr (zz_mC m) (f_X12_whyAmount m p1 p3) m := by
  intro p1 p3 m
  refine zz_con (lv := [(0, .ref (zz_a G 0)), (1, .long p1), (3, .long p3)]) (by decide +kernel) (Nat.le_of_ble_eq_true rfl) rfl ?_
  unfold f_X12_whyAmount
  refine zs_aload_n dX12_whyAmount_0 rfl 0 rfl ?_
  refine zs_lload_n dX12_whyAmount_1 rfl 1 rfl ?_
  refine zs_cV_iR (rest := []) (k_X12_isFlow hN _ _) dX12_whyAmount_2 lv_X12_315 ok_X12_isFlow (zz_rcv_o (shm_0 hN) rfl) (Nat.le_of_ble_eq_true rfl) rfl rfl (Nat.le_of_ble_eq_true rfl) (fun r1 => ?_)
  refine zs_if_eq (tgt := 25) dX12_whyAmount_5 (by decide) ?_ ?_
  · refine zs_iconst (v := (1 : Int32)) dX12_whyAmount_25 ci_1 ?_
    exact zs_iret dX12_whyAmount_26 rfl rfl rfl
  · refine zs_lload_n dX12_whyAmount_8 rfl 2 rfl ?_
    refine zs_ldc2 (v := (-999 : Int64)) dX12_whyAmount_9 kc_X12_322 ?_
    refine zs_ldc2 (v := (999 : Int64)) dX12_whyAmount_12 kc_X12_258 ?_
    refine zs_cS_iR (rest := []) (k_X12_within hN _ _ _ _) dX12_whyAmount_15 ls_X12_163 ok_X12_within (Nat.le_of_ble_eq_true rfl) rfl rfl (Nat.le_of_ble_eq_true rfl) (fun r2 => ?_)
    refine zs_if_eq (tgt := 25) dX12_whyAmount_18 (by decide) ?_ ?_
    · refine zs_iconst (v := (1 : Int32)) dX12_whyAmount_25 ci_1 ?_
      exact zs_iret dX12_whyAmount_26 rfl rfl rfl
    · refine zs_iconst (v := (0 : Int32)) dX12_whyAmount_21 ci_0 ?_
      refine zs_goto (tgt := 26) dX12_whyAmount_22 (by decide) ?_
      exact zs_iret dX12_whyAmount_26 rfl rfl rfl
/-! X12_bump: PillarDeskModel.bump(II)I -/
theorem dX12_bump_0 : decode cX12_bump 0 = .ok (.aload_n 0, 1) := by decide +kernel
theorem dX12_bump_1 : decode cX12_bump 1 = .ok (.iconst 0, 1) := by decide +kernel
theorem dX12_bump_2 : decode cX12_bump 2 = .ok (.putfield 1, 3) := by decide +kernel
theorem dX12_bump_5 : decode cX12_bump 5 = .ok (.aload_n 0, 1) := by decide +kernel
theorem dX12_bump_6 : decode cX12_bump 6 = .ok (.iload_n 1, 1) := by decide +kernel
theorem dX12_bump_7 : decode cX12_bump 7 = .ok (.i2l, 1) := by decide +kernel
theorem dX12_bump_8 : decode cX12_bump 8 = .ok (.iload_n 2, 1) := by decide +kernel
theorem dX12_bump_9 : decode cX12_bump 9 = .ok (.i2l, 1) := by decide +kernel
theorem dX12_bump_10 : decode cX12_bump 10 = .ok (.invokevirtual 324, 3) := by decide +kernel
theorem dX12_bump_13 : decode cX12_bump 13 = .ok (.istore_n 3, 1) := by decide +kernel
theorem dX12_bump_14 : decode cX12_bump 14 = .ok (.iload_n 3, 1) := by decide +kernel
theorem dX12_bump_15 : decode cX12_bump 15 = .ok (.ifCond .eq 8, 3) := by decide +kernel
theorem dX12_bump_18 : decode cX12_bump 18 = .ok (.bipush (-10), 2) := by decide +kernel
theorem dX12_bump_20 : decode cX12_bump 20 = .ok (.iload_n 3, 1) := by decide +kernel
theorem dX12_bump_21 : decode cX12_bump 21 = .ok (.isub, 1) := by decide +kernel
theorem dX12_bump_22 : decode cX12_bump 22 = .ok (.ireturn, 1) := by decide +kernel
theorem dX12_bump_23 : decode cX12_bump 23 = .ok (.aload_n 0, 1) := by decide +kernel
theorem dX12_bump_24 : decode cX12_bump 24 = .ok (.invokevirtual 328, 3) := by decide +kernel
theorem dX12_bump_27 : decode cX12_bump 27 = .ok (.aload_n 0, 1) := by decide +kernel
theorem dX12_bump_28 : decode cX12_bump 28 = .ok (.getfield 13, 3) := by decide +kernel
theorem dX12_bump_31 : decode cX12_bump 31 = .ok (.bipush 66, 2) := by decide +kernel
theorem dX12_bump_33 : decode cX12_bump 33 = .ok (.iload_n 1, 1) := by decide +kernel
theorem dX12_bump_34 : decode cX12_bump 34 = .ok (.iadd, 1) := by decide +kernel
theorem dX12_bump_35 : decode cX12_bump 35 = .ok (.dup2, 1) := by decide +kernel
theorem dX12_bump_36 : decode cX12_bump 36 = .ok (.iaload, 1) := by decide +kernel
theorem dX12_bump_37 : decode cX12_bump 37 = .ok (.iload_n 2, 1) := by decide +kernel
theorem dX12_bump_38 : decode cX12_bump 38 = .ok (.iadd, 1) := by decide +kernel
theorem dX12_bump_39 : decode cX12_bump 39 = .ok (.iastore, 1) := by decide +kernel
theorem dX12_bump_40 : decode cX12_bump 40 = .ok (.aload_n 0, 1) := by decide +kernel
theorem dX12_bump_41 : decode cX12_bump 41 = .ok (.invokevirtual 331, 3) := by decide +kernel
theorem dX12_bump_44 : decode cX12_bump 44 = .ok (.aload_n 0, 1) := by decide +kernel
theorem dX12_bump_45 : decode cX12_bump 45 = .ok (.getfield 13, 3) := by decide +kernel
theorem dX12_bump_48 : decode cX12_bump 48 = .ok (.bipush 66, 2) := by decide +kernel
theorem dX12_bump_50 : decode cX12_bump 50 = .ok (.iload_n 1, 1) := by decide +kernel
theorem dX12_bump_51 : decode cX12_bump 51 = .ok (.iadd, 1) := by decide +kernel
theorem dX12_bump_52 : decode cX12_bump 52 = .ok (.iaload, 1) := by decide +kernel
theorem dX12_bump_53 : decode cX12_bump 53 = .ok (.ireturn, 1) := by decide +kernel
def f_X12_bump  (p1 : Int32) (p2 : Int32) (m : zz_Mem) : Option (Int32 × zz_Mem) :=
  zz_letM (zz_setI m 0 0 (0 : Int32)) fun m1 =>
  zz_bndR (f_X12_whyBump m1 p1.toInt64 p2.toInt64) fun r2 =>
  if r2 = 0 then (
  zz_bndR (f_X12_stores m1) fun m3 =>
  zz_ix ((66 : Int32) + p1) 3531 <|
  zz_ix ((66 : Int32) + p1) 3531 <| zz_letM (zz_setI m3 1 ((66 : Int32) + p1).toNatClampNeg ((m3.1 1 ((66 : Int32) + p1).toNatClampNeg) + p2)) fun m4 =>
  zz_bndR (f_X12_notes m4) fun m5 =>
  zz_ix ((66 : Int32) + p1) 3531 <|
  some (m5.1 1 ((66 : Int32) + p1).toNatClampNeg, m5))
  else (
  some ((-10 : Int32) - r2, m1))
theorem k_X12_bump {l : Launch} {G : zz_G} (hN : 26 ≤ zz_N G) : ∀ (p1 : Int32) (p2 : Int32) (m : zz_Mem), zz_Con zz_shM l G mX12_bump 3 [.ref (zz_a G 0), .int p1, .int p2] zz_vI zz_m2 (f_X12_bump p1 p2 m) m := by
  intro p1 p2 m
  refine zz_con (lv := [(0, .ref (zz_a G 0)), (1, .int p1), (2, .int p2)]) (by decide +kernel) (Nat.le_of_ble_eq_true rfl) rfl ?_
  unfold f_X12_bump
  refine zs_aload_n dX12_bump_0 rfl 0 rfl ?_
  refine zs_iconst (v := (0 : Int32)) dX12_bump_1 ci_0 ?_
  refine zs_putI fl_X12_1 dX12_bump_2 (shm_0 hN) rfl ⟨rfl, rfl⟩ (fun m1 => ?_)
  refine zs_aload_n dX12_bump_5 rfl 0 rfl ?_
  refine zs_iload_n dX12_bump_6 rfl 1 rfl ?_
  refine zs_i2l dX12_bump_7 ?_
  refine zs_iload_n dX12_bump_8 rfl 2 rfl ?_
  refine zs_i2l dX12_bump_9 ?_
  refine zs_cV_iR (rest := []) (k_X12_whyBump hN _ _ _) dX12_bump_10 lv_X12_324 ok_X12_whyBump (zz_rcv_o (shm_0 hN) rfl) (Nat.le_of_ble_eq_true rfl) rfl rfl (Nat.le_of_ble_eq_true rfl) (fun r2 => ?_)
  refine zs_istore_n [(3, .int r2), (0, .ref (zz_a G 0)), (1, .int p1), (2, .int p2)] dX12_bump_13 rfl (Nat.le_of_ble_eq_true rfl) rfl ?_
  refine zs_iload_n dX12_bump_14 rfl 0 rfl ?_
  refine zs_if_eq (tgt := 23) dX12_bump_15 (by decide) ?_ ?_
  · refine zs_aload_n dX12_bump_23 rfl 1 rfl ?_
    refine zs_cV_vW (rest := []) (k_X12_stores hN  _) dX12_bump_24 lv_X12_328 ok_X12_stores (zz_rcv_o (shm_0 hN) rfl) (Nat.le_of_ble_eq_true rfl) rfl rfl (Nat.le_of_ble_eq_true rfl) (fun m3 => ?_)
    refine zs_aload_n dX12_bump_27 rfl 1 rfl ?_
    refine zs_getR fl_X12_13 dX12_bump_28 (shm_0 hN) rfl ?_
    refine zs_bipush (v := (66 : Int32)) dX12_bump_31 cb_66 ?_
    refine zs_iload_n dX12_bump_33 rfl 2 rfl ?_
    refine zs_iadd dX12_bump_34 ?_
    refine zs_dup2_11 dX12_bump_35 rfl rfl ?_
    refine zs_ialdG dX12_bump_36 (shm_1 hN) ?_
    refine zs_iload_n dX12_bump_37 rfl 3 rfl ?_
    refine zs_iadd dX12_bump_38 ?_
    refine zs_iastG dX12_bump_39 (shm_1 hN) (fun m4 => ?_)
    refine zs_aload_n dX12_bump_40 rfl 1 rfl ?_
    refine zs_cV_vW (rest := []) (k_X12_notes hN  _) dX12_bump_41 lv_X12_331 ok_X12_notes (zz_rcv_o (shm_0 hN) rfl) (Nat.le_of_ble_eq_true rfl) rfl rfl (Nat.le_of_ble_eq_true rfl) (fun m5 => ?_)
    refine zs_aload_n dX12_bump_44 rfl 1 rfl ?_
    refine zs_getR fl_X12_13 dX12_bump_45 (shm_0 hN) rfl ?_
    refine zs_bipush (v := (66 : Int32)) dX12_bump_48 cb_66 ?_
    refine zs_iload_n dX12_bump_50 rfl 2 rfl ?_
    refine zs_iadd dX12_bump_51 ?_
    refine zs_ialdG dX12_bump_52 (shm_1 hN) ?_
    exact zs_iret dX12_bump_53 rfl rfl rfl
  · refine zs_bipush (v := (-10 : Int32)) dX12_bump_18 cb_m10 ?_
    refine zs_iload_n dX12_bump_20 rfl 0 rfl ?_
    refine zs_isub dX12_bump_21 ?_
    exact zs_iret dX12_bump_22 rfl rfl rfl
/-! X12_shift: PillarDeskModel.shift(I)I -/
theorem dX12_shift_0 : decode cX12_shift 0 = .ok (.aload_n 0, 1) := by decide +kernel
theorem dX12_shift_1 : decode cX12_shift 1 = .ok (.iconst 0, 1) := by decide +kernel
theorem dX12_shift_2 : decode cX12_shift 2 = .ok (.putfield 1, 3) := by decide +kernel
theorem dX12_shift_5 : decode cX12_shift 5 = .ok (.iload_n 1, 1) := by decide +kernel
theorem dX12_shift_6 : decode cX12_shift 6 = .ok (.i2l, 1) := by decide +kernel
theorem dX12_shift_7 : decode cX12_shift 7 = .ok (.lconst 0, 1) := by decide +kernel
theorem dX12_shift_8 : decode cX12_shift 8 = .ok (.ldc2_w 334, 3) := by decide +kernel
theorem dX12_shift_11 : decode cX12_shift 11 = .ok (.invokestatic 163, 3) := by decide +kernel
theorem dX12_shift_14 : decode cX12_shift 14 = .ok (.ifCond .ne 6, 3) := by decide +kernel
theorem dX12_shift_17 : decode cX12_shift 17 = .ok (.bipush (-11), 2) := by decide +kernel
theorem dX12_shift_19 : decode cX12_shift 19 = .ok (.ireturn, 1) := by decide +kernel
theorem dX12_shift_20 : decode cX12_shift 20 = .ok (.aload_n 0, 1) := by decide +kernel
theorem dX12_shift_21 : decode cX12_shift 21 = .ok (.invokevirtual 328, 3) := by decide +kernel
theorem dX12_shift_24 : decode cX12_shift 24 = .ok (.aload_n 0, 1) := by decide +kernel
theorem dX12_shift_25 : decode cX12_shift 25 = .ok (.getfield 13, 3) := by decide +kernel
theorem dX12_shift_28 : decode cX12_shift 28 = .ok (.bipush 74, 2) := by decide +kernel
theorem dX12_shift_30 : decode cX12_shift 30 = .ok (.iload_n 1, 1) := by decide +kernel
theorem dX12_shift_31 : decode cX12_shift 31 = .ok (.iastore, 1) := by decide +kernel
theorem dX12_shift_32 : decode cX12_shift 32 = .ok (.aload_n 0, 1) := by decide +kernel
theorem dX12_shift_33 : decode cX12_shift 33 = .ok (.invokevirtual 331, 3) := by decide +kernel
theorem dX12_shift_36 : decode cX12_shift 36 = .ok (.aload_n 0, 1) := by decide +kernel
theorem dX12_shift_37 : decode cX12_shift 37 = .ok (.getfield 66, 3) := by decide +kernel
theorem dX12_shift_40 : decode cX12_shift 40 = .ok (.bipush 8, 2) := by decide +kernel
theorem dX12_shift_42 : decode cX12_shift 42 = .ok (.iaload, 1) := by decide +kernel
theorem dX12_shift_43 : decode cX12_shift 43 = .ok (.ireturn, 1) := by decide +kernel
def f_X12_shift  (p1 : Int32) (m : zz_Mem) : Option (Int32 × zz_Mem) :=
  zz_letM (zz_setI m 0 0 (0 : Int32)) fun m1 =>
  zz_bndR (f_X12_within p1.toInt64 (0 : Int64) (9 : Int64)) fun r2 =>
  if r2 = 0 then (
  some ((-11 : Int32), m1))
  else (
  zz_bndR (f_X12_stores m1) fun m3 =>
  zz_letM (zz_setI m3 1 74 p1) fun m4 =>
  zz_bndR (f_X12_notes m4) fun m5 =>
  some (m5.1 17 8, m5))
theorem k_X12_shift {l : Launch} {G : zz_G} (hN : 26 ≤ zz_N G) : ∀ (p1 : Int32) (m : zz_Mem), zz_Con zz_shM l G mX12_shift 1 [.ref (zz_a G 0), .int p1] zz_vI zz_m2 (f_X12_shift p1 m) m := by
  intro p1 m
  refine zz_con (lv := [(0, .ref (zz_a G 0)), (1, .int p1)]) (by decide +kernel) (Nat.le_of_ble_eq_true rfl) rfl ?_
  unfold f_X12_shift
  refine zs_aload_n dX12_shift_0 rfl 0 rfl ?_
  refine zs_iconst (v := (0 : Int32)) dX12_shift_1 ci_0 ?_
  refine zs_putI fl_X12_1 dX12_shift_2 (shm_0 hN) rfl ⟨rfl, rfl⟩ (fun m1 => ?_)
  refine zs_iload_n dX12_shift_5 rfl 1 rfl ?_
  refine zs_i2l dX12_shift_6 ?_
  refine zs_lconst (v := (0 : Int64)) dX12_shift_7 rfl ?_
  refine zs_ldc2 (v := (9 : Int64)) dX12_shift_8 kc_X12_334 ?_
  refine zs_cS_iR (rest := []) (k_X12_within hN _ _ _ _) dX12_shift_11 ls_X12_163 ok_X12_within (Nat.le_of_ble_eq_true rfl) rfl rfl (Nat.le_of_ble_eq_true rfl) (fun r2 => ?_)
  refine zs_if_ne (tgt := 20) dX12_shift_14 (by decide) ?_ ?_
  · refine zs_aload_n dX12_shift_20 rfl 0 rfl ?_
    refine zs_cV_vW (rest := []) (k_X12_stores hN  _) dX12_shift_21 lv_X12_328 ok_X12_stores (zz_rcv_o (shm_0 hN) rfl) (Nat.le_of_ble_eq_true rfl) rfl rfl (Nat.le_of_ble_eq_true rfl) (fun m3 => ?_)
    refine zs_aload_n dX12_shift_24 rfl 0 rfl ?_
    refine zs_getR fl_X12_13 dX12_shift_25 (shm_0 hN) rfl ?_
    refine zs_bipush (v := (74 : Int32)) dX12_shift_28 cb_74 ?_
    refine zs_iload_n dX12_shift_30 rfl 1 rfl ?_
    refine zs_iastC dX12_shift_31 (shm_1 hN) vin_74_3531 clp_74 (fun m4 => ?_)
    refine zs_aload_n dX12_shift_32 rfl 0 rfl ?_
    refine zs_cV_vW (rest := []) (k_X12_notes hN  _) dX12_shift_33 lv_X12_331 ok_X12_notes (zz_rcv_o (shm_0 hN) rfl) (Nat.le_of_ble_eq_true rfl) rfl rfl (Nat.le_of_ble_eq_true rfl) (fun m5 => ?_)
    refine zs_aload_n dX12_shift_36 rfl 0 rfl ?_
    refine zs_getR fl_X12_66 dX12_shift_37 (shm_0 hN) rfl ?_
    refine zs_bipush (v := (8 : Int32)) dX12_shift_40 cb_8 ?_
    refine zs_ialdC dX12_shift_42 (shm_17 hN) vin_8_19 clp_8 ?_
    exact zs_iret dX12_shift_43 rfl rfl rfl
  · refine zs_bipush (v := (-11 : Int32)) dX12_shift_17 cb_m11 ?_
    exact zs_iret dX12_shift_19 rfl rfl rfl
/-! X12_amount: PillarDeskModel.amount(II)I -/
theorem dX12_amount_0 : decode cX12_amount 0 = .ok (.aload_n 0, 1) := by decide +kernel
theorem dX12_amount_1 : decode cX12_amount 1 = .ok (.iconst 0, 1) := by decide +kernel
theorem dX12_amount_2 : decode cX12_amount 2 = .ok (.putfield 1, 3) := by decide +kernel
theorem dX12_amount_5 : decode cX12_amount 5 = .ok (.aload_n 0, 1) := by decide +kernel
theorem dX12_amount_6 : decode cX12_amount 6 = .ok (.iload_n 1, 1) := by decide +kernel
theorem dX12_amount_7 : decode cX12_amount 7 = .ok (.i2l, 1) := by decide +kernel
theorem dX12_amount_8 : decode cX12_amount 8 = .ok (.iload_n 2, 1) := by decide +kernel
theorem dX12_amount_9 : decode cX12_amount 9 = .ok (.i2l, 1) := by decide +kernel
theorem dX12_amount_10 : decode cX12_amount 10 = .ok (.invokevirtual 336, 3) := by decide +kernel
theorem dX12_amount_13 : decode cX12_amount 13 = .ok (.ifCond .eq 6, 3) := by decide +kernel
theorem dX12_amount_16 : decode cX12_amount 16 = .ok (.bipush (-11), 2) := by decide +kernel
theorem dX12_amount_18 : decode cX12_amount 18 = .ok (.ireturn, 1) := by decide +kernel
theorem dX12_amount_19 : decode cX12_amount 19 = .ok (.aload_n 0, 1) := by decide +kernel
theorem dX12_amount_20 : decode cX12_amount 20 = .ok (.invokevirtual 328, 3) := by decide +kernel
theorem dX12_amount_23 : decode cX12_amount 23 = .ok (.aload_n 0, 1) := by decide +kernel
theorem dX12_amount_24 : decode cX12_amount 24 = .ok (.getfield 13, 3) := by decide +kernel
theorem dX12_amount_27 : decode cX12_amount 27 = .ok (.bipush 75, 2) := by decide +kernel
theorem dX12_amount_29 : decode cX12_amount 29 = .ok (.iload_n 1, 1) := by decide +kernel
theorem dX12_amount_30 : decode cX12_amount 30 = .ok (.iadd, 1) := by decide +kernel
theorem dX12_amount_31 : decode cX12_amount 31 = .ok (.iload_n 2, 1) := by decide +kernel
theorem dX12_amount_32 : decode cX12_amount 32 = .ok (.iastore, 1) := by decide +kernel
theorem dX12_amount_33 : decode cX12_amount 33 = .ok (.aload_n 0, 1) := by decide +kernel
theorem dX12_amount_34 : decode cX12_amount 34 = .ok (.invokevirtual 331, 3) := by decide +kernel
theorem dX12_amount_37 : decode cX12_amount 37 = .ok (.iconst 0, 1) := by decide +kernel
theorem dX12_amount_38 : decode cX12_amount 38 = .ok (.ireturn, 1) := by decide +kernel
def f_X12_amount  (p1 : Int32) (p2 : Int32) (m : zz_Mem) : Option (Int32 × zz_Mem) :=
  zz_letM (zz_setI m 0 0 (0 : Int32)) fun m1 =>
  zz_bndR (f_X12_whyAmount m1 p1.toInt64 p2.toInt64) fun r2 =>
  if r2 = 0 then (
  zz_bndR (f_X12_stores m1) fun m3 =>
  zz_ix ((75 : Int32) + p1) 3531 <| zz_letM (zz_setI m3 1 ((75 : Int32) + p1).toNatClampNeg p2) fun m4 =>
  zz_bndR (f_X12_notes m4) fun m5 =>
  some ((0 : Int32), m5))
  else (
  some ((-11 : Int32), m1))
theorem k_X12_amount {l : Launch} {G : zz_G} (hN : 26 ≤ zz_N G) : ∀ (p1 : Int32) (p2 : Int32) (m : zz_Mem), zz_Con zz_shM l G mX12_amount 3 [.ref (zz_a G 0), .int p1, .int p2] zz_vI zz_m2 (f_X12_amount p1 p2 m) m := by
  intro p1 p2 m
  refine zz_con (lv := [(0, .ref (zz_a G 0)), (1, .int p1), (2, .int p2)]) (by decide +kernel) (Nat.le_of_ble_eq_true rfl) rfl ?_
  unfold f_X12_amount
  refine zs_aload_n dX12_amount_0 rfl 0 rfl ?_
  refine zs_iconst (v := (0 : Int32)) dX12_amount_1 ci_0 ?_
  refine zs_putI fl_X12_1 dX12_amount_2 (shm_0 hN) rfl ⟨rfl, rfl⟩ (fun m1 => ?_)
  refine zs_aload_n dX12_amount_5 rfl 0 rfl ?_
  refine zs_iload_n dX12_amount_6 rfl 1 rfl ?_
  refine zs_i2l dX12_amount_7 ?_
  refine zs_iload_n dX12_amount_8 rfl 2 rfl ?_
  refine zs_i2l dX12_amount_9 ?_
  refine zs_cV_iR (rest := []) (k_X12_whyAmount hN _ _ _) dX12_amount_10 lv_X12_336 ok_X12_whyAmount (zz_rcv_o (shm_0 hN) rfl) (Nat.le_of_ble_eq_true rfl) rfl rfl (Nat.le_of_ble_eq_true rfl) (fun r2 => ?_)
  refine zs_if_eq (tgt := 19) dX12_amount_13 (by decide) ?_ ?_
  · refine zs_aload_n dX12_amount_19 rfl 0 rfl ?_
    refine zs_cV_vW (rest := []) (k_X12_stores hN  _) dX12_amount_20 lv_X12_328 ok_X12_stores (zz_rcv_o (shm_0 hN) rfl) (Nat.le_of_ble_eq_true rfl) rfl rfl (Nat.le_of_ble_eq_true rfl) (fun m3 => ?_)
    refine zs_aload_n dX12_amount_23 rfl 0 rfl ?_
    refine zs_getR fl_X12_13 dX12_amount_24 (shm_0 hN) rfl ?_
    refine zs_bipush (v := (75 : Int32)) dX12_amount_27 cb_75 ?_
    refine zs_iload_n dX12_amount_29 rfl 1 rfl ?_
    refine zs_iadd dX12_amount_30 ?_
    refine zs_iload_n dX12_amount_31 rfl 2 rfl ?_
    refine zs_iastG dX12_amount_32 (shm_1 hN) (fun m4 => ?_)
    refine zs_aload_n dX12_amount_33 rfl 0 rfl ?_
    refine zs_cV_vW (rest := []) (k_X12_notes hN  _) dX12_amount_34 lv_X12_331 ok_X12_notes (zz_rcv_o (shm_0 hN) rfl) (Nat.le_of_ble_eq_true rfl) rfl rfl (Nat.le_of_ble_eq_true rfl) (fun m5 => ?_)
    refine zs_iconst (v := (0 : Int32)) dX12_amount_37 ci_0 ?_
    exact zs_iret dX12_amount_38 rfl rfl rfl
  · refine zs_bipush (v := (-11 : Int32)) dX12_amount_16 cb_m11 ?_
    exact zs_iret dX12_amount_18 rfl rfl rfl
/-! X12_undo: PillarDeskModel.undo(I)I -/
theorem dX12_undo_0 : decode cX12_undo 0 = .ok (.aload_n 0, 1) := by decide +kernel
theorem dX12_undo_1 : decode cX12_undo 1 = .ok (.iconst 0, 1) := by decide +kernel
theorem dX12_undo_2 : decode cX12_undo 2 = .ok (.putfield 1, 3) := by decide +kernel
theorem dX12_undo_5 : decode cX12_undo 5 = .ok (.iload_n 1, 1) := by decide +kernel
theorem dX12_undo_6 : decode cX12_undo 6 = .ok (.i2l, 1) := by decide +kernel
theorem dX12_undo_7 : decode cX12_undo 7 = .ok (.lconst 1, 1) := by decide +kernel
theorem dX12_undo_8 : decode cX12_undo 8 = .ok (.ldc2_w 339, 3) := by decide +kernel
theorem dX12_undo_11 : decode cX12_undo 11 = .ok (.invokestatic 163, 3) := by decide +kernel
theorem dX12_undo_14 : decode cX12_undo 14 = .ok (.ifCond .eq 14, 3) := by decide +kernel
theorem dX12_undo_17 : decode cX12_undo 17 = .ok (.iload_n 1, 1) := by decide +kernel
theorem dX12_undo_18 : decode cX12_undo 18 = .ok (.aload_n 0, 1) := by decide +kernel
theorem dX12_undo_19 : decode cX12_undo 19 = .ok (.getfield 13, 3) := by decide +kernel
theorem dX12_undo_22 : decode cX12_undo 22 = .ok (.bipush 85, 2) := by decide +kernel
theorem dX12_undo_24 : decode cX12_undo 24 = .ok (.iaload, 1) := by decide +kernel
theorem dX12_undo_25 : decode cX12_undo 25 = .ok (.if_icmp .le 6, 3) := by decide +kernel
theorem dX12_undo_28 : decode cX12_undo 28 = .ok (.bipush (-3), 2) := by decide +kernel
theorem dX12_undo_30 : decode cX12_undo 30 = .ok (.ireturn, 1) := by decide +kernel
theorem dX12_undo_31 : decode cX12_undo 31 = .ok (.aload_n 0, 1) := by decide +kernel
theorem dX12_undo_32 : decode cX12_undo 32 = .ok (.getfield 13, 3) := by decide +kernel
theorem dX12_undo_35 : decode cX12_undo 35 = .ok (.bipush 85, 2) := by decide +kernel
theorem dX12_undo_37 : decode cX12_undo 37 = .ok (.dup2, 1) := by decide +kernel
theorem dX12_undo_38 : decode cX12_undo 38 = .ok (.iaload, 1) := by decide +kernel
theorem dX12_undo_39 : decode cX12_undo 39 = .ok (.iload_n 1, 1) := by decide +kernel
theorem dX12_undo_40 : decode cX12_undo 40 = .ok (.isub, 1) := by decide +kernel
theorem dX12_undo_41 : decode cX12_undo 41 = .ok (.iastore, 1) := by decide +kernel
theorem dX12_undo_42 : decode cX12_undo 42 = .ok (.iconst 0, 1) := by decide +kernel
theorem dX12_undo_43 : decode cX12_undo 43 = .ok (.istore_n 2, 1) := by decide +kernel
theorem dX12_undo_44 : decode cX12_undo 44 = .ok (.iload_n 2, 1) := by decide +kernel
theorem dX12_undo_45 : decode cX12_undo 45 = .ok (.bipush 19, 2) := by decide +kernel
theorem dX12_undo_47 : decode cX12_undo 47 = .ok (.if_icmp .ge 38, 3) := by decide +kernel
theorem dX12_undo_50 : decode cX12_undo 50 = .ok (.aload_n 0, 1) := by decide +kernel
theorem dX12_undo_51 : decode cX12_undo 51 = .ok (.getfield 13, 3) := by decide +kernel
theorem dX12_undo_54 : decode cX12_undo 54 = .ok (.bipush 66, 2) := by decide +kernel
theorem dX12_undo_56 : decode cX12_undo 56 = .ok (.iload_n 2, 1) := by decide +kernel
theorem dX12_undo_57 : decode cX12_undo 57 = .ok (.iadd, 1) := by decide +kernel
theorem dX12_undo_58 : decode cX12_undo 58 = .ok (.aload_n 0, 1) := by decide +kernel
theorem dX12_undo_59 : decode cX12_undo 59 = .ok (.getfield 13, 3) := by decide +kernel
theorem dX12_undo_62 : decode cX12_undo 62 = .ok (.bipush 86, 2) := by decide +kernel
theorem dX12_undo_64 : decode cX12_undo 64 = .ok (.bipush 19, 2) := by decide +kernel
theorem dX12_undo_66 : decode cX12_undo 66 = .ok (.aload_n 0, 1) := by decide +kernel
theorem dX12_undo_67 : decode cX12_undo 67 = .ok (.getfield 13, 3) := by decide +kernel
theorem dX12_undo_70 : decode cX12_undo 70 = .ok (.bipush 85, 2) := by decide +kernel
theorem dX12_undo_72 : decode cX12_undo 72 = .ok (.iaload, 1) := by decide +kernel
theorem dX12_undo_73 : decode cX12_undo 73 = .ok (.imul, 1) := by decide +kernel
theorem dX12_undo_74 : decode cX12_undo 74 = .ok (.iadd, 1) := by decide +kernel
theorem dX12_undo_75 : decode cX12_undo 75 = .ok (.iload_n 2, 1) := by decide +kernel
theorem dX12_undo_76 : decode cX12_undo 76 = .ok (.iadd, 1) := by decide +kernel
theorem dX12_undo_77 : decode cX12_undo 77 = .ok (.iaload, 1) := by decide +kernel
theorem dX12_undo_78 : decode cX12_undo 78 = .ok (.iastore, 1) := by decide +kernel
theorem dX12_undo_79 : decode cX12_undo 79 = .ok (.iinc 2 1, 3) := by decide +kernel
theorem dX12_undo_82 : decode cX12_undo 82 = .ok (.goto (-38), 3) := by decide +kernel
theorem dX12_undo_85 : decode cX12_undo 85 = .ok (.aload_n 0, 1) := by decide +kernel
theorem dX12_undo_86 : decode cX12_undo 86 = .ok (.getfield 13, 3) := by decide +kernel
theorem dX12_undo_89 : decode cX12_undo 89 = .ok (.bipush 85, 2) := by decide +kernel
theorem dX12_undo_91 : decode cX12_undo 91 = .ok (.iaload, 1) := by decide +kernel
theorem dX12_undo_92 : decode cX12_undo 92 = .ok (.ireturn, 1) := by decide +kernel
def f_X12_undo_44   : Nat → Int32 → zz_Mem → Option (Int32 × zz_Mem)
  | 0, _, _ => none
  | n + 1, v2, m =>
  if (19 : Int32) ≤ v2 then (
  some (m.1 1 85, m))
  else (
  zz_ix (((86 : Int32) + ((19 : Int32) * (m.1 1 85))) + v2) 3531 <|
  zz_ix ((66 : Int32) + v2) 3531 <| zz_letM (zz_setI m 1 ((66 : Int32) + v2).toNatClampNeg (m.1 1 (((86 : Int32) + ((19 : Int32) * (m.1 1 85))) + v2).toNatClampNeg)) fun m1 =>
  zz_letI (v2 + (1 : Int32)) fun x2 =>
  f_X12_undo_44 n x2 m1)
theorem t_X12_undo_44 {l : Launch} {G : zz_G} (hN : 26 ≤ zz_N G)  : ∀ (n : Nat) (v2 : Int32) (m : zz_Mem), zz_Sim zz_shM l G mX12_undo 1 zz_vI zz_m2 (f_X12_undo_44 n v2 m) 44 [(0, .ref (zz_a G 0)), (2, .int v2)] [] m := by
  intro n
  induction n with
  | zero => intro _ _; exact zs_none
  | succ n ih =>
    intro v2 m
    rw [f_X12_undo_44]
    refine zs_iload_n dX12_undo_44 rfl 1 rfl ?_
    refine zs_bipush (v := (19 : Int32)) dX12_undo_45 cb_19 ?_
    refine zs_icmp_ge (tgt := 85) dX12_undo_47 (by decide) ?_ ?_
    · refine zs_aload_n dX12_undo_85 rfl 0 rfl ?_
      refine zs_getR fl_X12_13 dX12_undo_86 (shm_0 hN) rfl ?_
      refine zs_bipush (v := (85 : Int32)) dX12_undo_89 cb_85 ?_
      refine zs_ialdC dX12_undo_91 (shm_1 hN) vin_85_3531 clp_85 ?_
      exact zs_iret dX12_undo_92 rfl rfl rfl
    · refine zs_aload_n dX12_undo_50 rfl 0 rfl ?_
      refine zs_getR fl_X12_13 dX12_undo_51 (shm_0 hN) rfl ?_
      refine zs_bipush (v := (66 : Int32)) dX12_undo_54 cb_66 ?_
      refine zs_iload_n dX12_undo_56 rfl 1 rfl ?_
      refine zs_iadd dX12_undo_57 ?_
      refine zs_aload_n dX12_undo_58 rfl 0 rfl ?_
      refine zs_getR fl_X12_13 dX12_undo_59 (shm_0 hN) rfl ?_
      refine zs_bipush (v := (86 : Int32)) dX12_undo_62 cb_86 ?_
      refine zs_bipush (v := (19 : Int32)) dX12_undo_64 cb_19 ?_
      refine zs_aload_n dX12_undo_66 rfl 0 rfl ?_
      refine zs_getR fl_X12_13 dX12_undo_67 (shm_0 hN) rfl ?_
      refine zs_bipush (v := (85 : Int32)) dX12_undo_70 cb_85 ?_
      refine zs_ialdC dX12_undo_72 (shm_1 hN) vin_85_3531 clp_85 ?_
      refine zs_imul dX12_undo_73 ?_
      refine zs_iadd dX12_undo_74 ?_
      refine zs_iload_n dX12_undo_75 rfl 1 rfl ?_
      refine zs_iadd dX12_undo_76 ?_
      refine zs_ialdG dX12_undo_77 (shm_1 hN) ?_
      refine zs_iastG dX12_undo_78 (shm_1 hN) (fun m1 => ?_)
      refine zs_iinc (fun y => [(2, .int y), (0, .ref (zz_a G 0))]) dX12_undo_79 1 rfl ci_1 (Nat.le_of_ble_eq_true rfl) (fun _ => rfl) (fun x2 => ?_)
      refine zs_goto (tgt := 44) dX12_undo_82 (by decide) ?_
      refine zs_sub [1, 0] rfl ?_
      exact ih _ _
def f_X12_undo  (p1 : Int32) (m : zz_Mem) : Option (Int32 × zz_Mem) :=
  zz_letM (zz_setI m 0 0 (0 : Int32)) fun m1 =>
  zz_bndR (f_X12_within p1.toInt64 (1 : Int64) (10 : Int64)) fun r2 =>
  if r2 = 0 then (
  some ((-3 : Int32), m1))
  else (
  if p1 ≤ (m1.1 1 85) then (
  zz_letM (zz_setI m1 1 85 ((m1.1 1 85) - p1)) fun m3 =>
  f_X12_undo_44 zz_fuel (0 : Int32) m3)
  else (
  some ((-3 : Int32), m1)))
theorem k_X12_undo {l : Launch} {G : zz_G} (hN : 26 ≤ zz_N G) : ∀ (p1 : Int32) (m : zz_Mem), zz_Con zz_shM l G mX12_undo 1 [.ref (zz_a G 0), .int p1] zz_vI zz_m2 (f_X12_undo p1 m) m := by
  intro p1 m
  refine zz_con (lv := [(0, .ref (zz_a G 0)), (1, .int p1)]) (by decide +kernel) (Nat.le_of_ble_eq_true rfl) rfl ?_
  unfold f_X12_undo
  refine zs_aload_n dX12_undo_0 rfl 0 rfl ?_
  refine zs_iconst (v := (0 : Int32)) dX12_undo_1 ci_0 ?_
  refine zs_putI fl_X12_1 dX12_undo_2 (shm_0 hN) rfl ⟨rfl, rfl⟩ (fun m1 => ?_)
  refine zs_iload_n dX12_undo_5 rfl 1 rfl ?_
  refine zs_i2l dX12_undo_6 ?_
  refine zs_lconst (v := (1 : Int64)) dX12_undo_7 rfl ?_
  refine zs_ldc2 (v := (10 : Int64)) dX12_undo_8 kc_X12_339 ?_
  refine zs_cS_iR (rest := []) (k_X12_within hN _ _ _ _) dX12_undo_11 ls_X12_163 ok_X12_within (Nat.le_of_ble_eq_true rfl) rfl rfl (Nat.le_of_ble_eq_true rfl) (fun r2 => ?_)
  refine zs_if_eq (tgt := 28) dX12_undo_14 (by decide) ?_ ?_
  · refine zs_bipush (v := (-3 : Int32)) dX12_undo_28 cb_m3 ?_
    exact zs_iret dX12_undo_30 rfl rfl rfl
  · refine zs_iload_n dX12_undo_17 rfl 1 rfl ?_
    refine zs_aload_n dX12_undo_18 rfl 0 rfl ?_
    refine zs_getR fl_X12_13 dX12_undo_19 (shm_0 hN) rfl ?_
    refine zs_bipush (v := (85 : Int32)) dX12_undo_22 cb_85 ?_
    refine zs_ialdC dX12_undo_24 (shm_1 hN) vin_85_3531 clp_85 ?_
    refine zs_icmp_le (tgt := 31) dX12_undo_25 (by decide) ?_ ?_
    · refine zs_aload_n dX12_undo_31 rfl 0 rfl ?_
      refine zs_getR fl_X12_13 dX12_undo_32 (shm_0 hN) rfl ?_
      refine zs_bipush (v := (85 : Int32)) dX12_undo_35 cb_85 ?_
      refine zs_dup2_11 dX12_undo_37 rfl rfl ?_
      refine zs_ialdC dX12_undo_38 (shm_1 hN) vin_85_3531 clp_85 ?_
      refine zs_iload_n dX12_undo_39 rfl 1 rfl ?_
      refine zs_isub dX12_undo_40 ?_
      refine zs_iastC dX12_undo_41 (shm_1 hN) vin_85_3531 clp_85 (fun m3 => ?_)
      refine zs_iconst (v := (0 : Int32)) dX12_undo_42 ci_0 ?_
      refine zs_istore_n [(2, .int (0 : Int32)), (0, .ref (zz_a G 0)), (1, .int p1)] dX12_undo_43 rfl (Nat.le_of_ble_eq_true rfl) rfl ?_
      refine zs_sub [1, 0] rfl ?_
      exact t_X12_undo_44 hN zz_fuel _ _
    · refine zs_bipush (v := (-3 : Int32)) dX12_undo_28 cb_m3 ?_
      exact zs_iret dX12_undo_30 rfl rfl rfl
/-! X12_whyNot: PillarDeskModel.whyNot(J)I -/
theorem dX12_whyNot_0 : decode cX12_whyNot 0 = .ok (.lload_n 1, 1) := by decide +kernel
theorem dX12_whyNot_1 : decode cX12_whyNot 1 = .ok (.ldc2_w 339, 3) := by decide +kernel
theorem dX12_whyNot_4 : decode cX12_whyNot 4 = .ok (.ldc2_w 341, 3) := by decide +kernel
theorem dX12_whyNot_7 : decode cX12_whyNot 7 = .ok (.invokestatic 163, 3) := by decide +kernel
theorem dX12_whyNot_10 : decode cX12_whyNot 10 = .ok (.ifCond .eq 5, 3) := by decide +kernel
theorem dX12_whyNot_13 : decode cX12_whyNot 13 = .ok (.iconst 0, 1) := by decide +kernel
theorem dX12_whyNot_14 : decode cX12_whyNot 14 = .ok (.ireturn, 1) := by decide +kernel
theorem dX12_whyNot_15 : decode cX12_whyNot 15 = .ok (.lload_n 1, 1) := by decide +kernel
theorem dX12_whyNot_16 : decode cX12_whyNot 16 = .ok (.ldc2_w 343, 3) := by decide +kernel
theorem dX12_whyNot_19 : decode cX12_whyNot 19 = .ok (.ldc2_w 345, 3) := by decide +kernel
theorem dX12_whyNot_22 : decode cX12_whyNot 22 = .ok (.invokestatic 163, 3) := by decide +kernel
theorem dX12_whyNot_25 : decode cX12_whyNot 25 = .ok (.ifCond .eq 24, 3) := by decide +kernel
theorem dX12_whyNot_28 : decode cX12_whyNot 28 = .ok (.aload_n 0, 1) := by decide +kernel
theorem dX12_whyNot_29 : decode cX12_whyNot 29 = .ok (.lload_n 1, 1) := by decide +kernel
theorem dX12_whyNot_30 : decode cX12_whyNot 30 = .ok (.ldc2_w 343, 3) := by decide +kernel
theorem dX12_whyNot_33 : decode cX12_whyNot 33 = .ok (.ldiv, 1) := by decide +kernel
theorem dX12_whyNot_34 : decode cX12_whyNot 34 = .ok (.lconst 1, 1) := by decide +kernel
theorem dX12_whyNot_35 : decode cX12_whyNot 35 = .ok (.lsub, 1) := by decide +kernel
theorem dX12_whyNot_36 : decode cX12_whyNot 36 = .ok (.lload_n 1, 1) := by decide +kernel
theorem dX12_whyNot_37 : decode cX12_whyNot 37 = .ok (.ldc2_w 343, 3) := by decide +kernel
theorem dX12_whyNot_40 : decode cX12_whyNot 40 = .ok (.lrem, 1) := by decide +kernel
theorem dX12_whyNot_41 : decode cX12_whyNot 41 = .ok (.ldc2_w 260, 3) := by decide +kernel
theorem dX12_whyNot_44 : decode cX12_whyNot 44 = .ok (.lsub, 1) := by decide +kernel
theorem dX12_whyNot_45 : decode cX12_whyNot 45 = .ok (.invokevirtual 324, 3) := by decide +kernel
theorem dX12_whyNot_48 : decode cX12_whyNot 48 = .ok (.ireturn, 1) := by decide +kernel
theorem dX12_whyNot_49 : decode cX12_whyNot 49 = .ok (.lload_n 1, 1) := by decide +kernel
theorem dX12_whyNot_50 : decode cX12_whyNot 50 = .ok (.ldc2_w 347, 3) := by decide +kernel
theorem dX12_whyNot_53 : decode cX12_whyNot 53 = .ok (.ldc2_w 349, 3) := by decide +kernel
theorem dX12_whyNot_56 : decode cX12_whyNot 56 = .ok (.invokestatic 163, 3) := by decide +kernel
theorem dX12_whyNot_59 : decode cX12_whyNot 59 = .ok (.ifCond .eq 32, 3) := by decide +kernel
theorem dX12_whyNot_62 : decode cX12_whyNot 62 = .ok (.aload_n 0, 1) := by decide +kernel
theorem dX12_whyNot_63 : decode cX12_whyNot 63 = .ok (.lload_n 1, 1) := by decide +kernel
theorem dX12_whyNot_64 : decode cX12_whyNot 64 = .ok (.ldc2_w 347, 3) := by decide +kernel
theorem dX12_whyNot_67 : decode cX12_whyNot 67 = .ok (.lsub, 1) := by decide +kernel
theorem dX12_whyNot_68 : decode cX12_whyNot 68 = .ok (.ldc2_w 351, 3) := by decide +kernel
theorem dX12_whyNot_71 : decode cX12_whyNot 71 = .ok (.ldiv, 1) := by decide +kernel
theorem dX12_whyNot_72 : decode cX12_whyNot 72 = .ok (.lload_n 1, 1) := by decide +kernel
theorem dX12_whyNot_73 : decode cX12_whyNot 73 = .ok (.ldc2_w 347, 3) := by decide +kernel
theorem dX12_whyNot_76 : decode cX12_whyNot 76 = .ok (.lsub, 1) := by decide +kernel
theorem dX12_whyNot_77 : decode cX12_whyNot 77 = .ok (.ldc2_w 351, 3) := by decide +kernel
theorem dX12_whyNot_80 : decode cX12_whyNot 80 = .ok (.lrem, 1) := by decide +kernel
theorem dX12_whyNot_81 : decode cX12_whyNot 81 = .ok (.ldc2_w 258, 3) := by decide +kernel
theorem dX12_whyNot_84 : decode cX12_whyNot 84 = .ok (.lsub, 1) := by decide +kernel
theorem dX12_whyNot_85 : decode cX12_whyNot 85 = .ok (.invokevirtual 336, 3) := by decide +kernel
theorem dX12_whyNot_88 : decode cX12_whyNot 88 = .ok (.goto 4, 3) := by decide +kernel
theorem dX12_whyNot_91 : decode cX12_whyNot 91 = .ok (.iconst 1, 1) := by decide +kernel
theorem dX12_whyNot_92 : decode cX12_whyNot 92 = .ok (.ireturn, 1) := by decide +kernel
def f_X12_whyNot (m : zz_Mem) (p1 : Int64) : Option Int32 :=
  zz_bndR (f_X12_within p1 (10 : Int64) (19 : Int64)) fun r1 =>
  if r1 = 0 then (
  zz_bndR (f_X12_within p1 (1000 : Int64) (8999 : Int64)) fun r2 =>
  if r2 = 0 then (
  zz_bndR (f_X12_within p1 (10000 : Int64) (29999 : Int64)) fun r3 =>
  if r3 = 0 then (
  some (1 : Int32))
  else (
  zz_bndR (f_X12_whyAmount m ((p1 - (10000 : Int64)) / (2000 : Int64)) (((p1 - (10000 : Int64)) - (p1 - (10000 : Int64)) / (2000 : Int64) * (2000 : Int64)) - (999 : Int64))) fun r4 =>
  some r4))
  else (
  zz_bndR (f_X12_whyBump m ((p1 / (1000 : Int64)) - (1 : Int64)) ((p1 - p1 / (1000 : Int64) * (1000 : Int64)) - (99 : Int64))) fun r5 =>
  some r5))
  else (
  some (0 : Int32))
theorem k_X12_whyNot {l : Launch} {G : zz_G} (hN : 26 ≤ zz_N G) : ∀ (p1 : Int64) (m : zz_Mem), zz_Con zz_shM l G mX12_whyNot 3 [.ref (zz_a G 0), .long p1] zz_vIr (zz_mC m) (f_X12_whyNot m p1) m := by
  intro p1 m
  refine zz_con (lv := [(0, .ref (zz_a G 0)), (1, .long p1)]) (by decide +kernel) (Nat.le_of_ble_eq_true rfl) rfl ?_
  unfold f_X12_whyNot
  refine zs_lload_n dX12_whyNot_0 rfl 1 rfl ?_
  refine zs_ldc2 (v := (10 : Int64)) dX12_whyNot_1 kc_X12_339 ?_
  refine zs_ldc2 (v := (19 : Int64)) dX12_whyNot_4 kc_X12_341 ?_
  refine zs_cS_iR (rest := []) (k_X12_within hN _ _ _ _) dX12_whyNot_7 ls_X12_163 ok_X12_within (Nat.le_of_ble_eq_true rfl) rfl rfl (Nat.le_of_ble_eq_true rfl) (fun r1 => ?_)
  refine zs_if_eq (tgt := 15) dX12_whyNot_10 (by decide) ?_ ?_
  · refine zs_lload_n dX12_whyNot_15 rfl 1 rfl ?_
    refine zs_ldc2 (v := (1000 : Int64)) dX12_whyNot_16 kc_X12_343 ?_
    refine zs_ldc2 (v := (8999 : Int64)) dX12_whyNot_19 kc_X12_345 ?_
    refine zs_cS_iR (rest := []) (k_X12_within hN _ _ _ _) dX12_whyNot_22 ls_X12_163 ok_X12_within (Nat.le_of_ble_eq_true rfl) rfl rfl (Nat.le_of_ble_eq_true rfl) (fun r2 => ?_)
    refine zs_if_eq (tgt := 49) dX12_whyNot_25 (by decide) ?_ ?_
    · refine zs_lload_n dX12_whyNot_49 rfl 1 rfl ?_
      refine zs_ldc2 (v := (10000 : Int64)) dX12_whyNot_50 kc_X12_347 ?_
      refine zs_ldc2 (v := (29999 : Int64)) dX12_whyNot_53 kc_X12_349 ?_
      refine zs_cS_iR (rest := []) (k_X12_within hN _ _ _ _) dX12_whyNot_56 ls_X12_163 ok_X12_within (Nat.le_of_ble_eq_true rfl) rfl rfl (Nat.le_of_ble_eq_true rfl) (fun r3 => ?_)
      refine zs_if_eq (tgt := 91) dX12_whyNot_59 (by decide) ?_ ?_
      · refine zs_iconst (v := (1 : Int32)) dX12_whyNot_91 ci_1 ?_
        exact zs_iret dX12_whyNot_92 rfl rfl rfl
      · refine zs_aload_n dX12_whyNot_62 rfl 0 rfl ?_
        refine zs_lload_n dX12_whyNot_63 rfl 1 rfl ?_
        refine zs_ldc2 (v := (10000 : Int64)) dX12_whyNot_64 kc_X12_347 ?_
        refine zs_lsub dX12_whyNot_67 ?_
        refine zs_ldc2 (v := (2000 : Int64)) dX12_whyNot_68 kc_X12_351 ?_
        refine zs_ldiv dX12_whyNot_71 (by decide) ?_
        refine zs_lload_n dX12_whyNot_72 rfl 1 rfl ?_
        refine zs_ldc2 (v := (10000 : Int64)) dX12_whyNot_73 kc_X12_347 ?_
        refine zs_lsub dX12_whyNot_76 ?_
        refine zs_ldc2 (v := (2000 : Int64)) dX12_whyNot_77 kc_X12_351 ?_
        refine zs_lrem dX12_whyNot_80 (by decide) ?_
        refine zs_ldc2 (v := (999 : Int64)) dX12_whyNot_81 kc_X12_258 ?_
        refine zs_lsub dX12_whyNot_84 ?_
        refine zs_cV_iR (rest := []) (k_X12_whyAmount hN _ _ _) dX12_whyNot_85 lv_X12_336 ok_X12_whyAmount (zz_rcv_o (shm_0 hN) rfl) (Nat.le_of_ble_eq_true rfl) rfl rfl (Nat.le_of_ble_eq_true rfl) (fun r4 => ?_)
        refine zs_goto (tgt := 92) dX12_whyNot_88 (by decide) ?_
        exact zs_iret dX12_whyNot_92 rfl rfl rfl
    · refine zs_aload_n dX12_whyNot_28 rfl 0 rfl ?_
      refine zs_lload_n dX12_whyNot_29 rfl 1 rfl ?_
      refine zs_ldc2 (v := (1000 : Int64)) dX12_whyNot_30 kc_X12_343 ?_
      refine zs_ldiv dX12_whyNot_33 (by decide) ?_
      refine zs_lconst (v := (1 : Int64)) dX12_whyNot_34 rfl ?_
      refine zs_lsub dX12_whyNot_35 ?_
      refine zs_lload_n dX12_whyNot_36 rfl 1 rfl ?_
      refine zs_ldc2 (v := (1000 : Int64)) dX12_whyNot_37 kc_X12_343 ?_
      refine zs_lrem dX12_whyNot_40 (by decide) ?_
      refine zs_ldc2 (v := (99 : Int64)) dX12_whyNot_41 kc_X12_260 ?_
      refine zs_lsub dX12_whyNot_44 ?_
      refine zs_cV_iR (rest := []) (k_X12_whyBump hN _ _ _) dX12_whyNot_45 lv_X12_324 ok_X12_whyBump (zz_rcv_o (shm_0 hN) rfl) (Nat.le_of_ble_eq_true rfl) rfl rfl (Nat.le_of_ble_eq_true rfl) (fun r5 => ?_)
      exact zs_iret dX12_whyNot_48 rfl rfl rfl
  · refine zs_iconst (v := (0 : Int32)) dX12_whyNot_13 ci_0 ?_
    exact zs_iret dX12_whyNot_14 rfl rfl rfl
/-! X12_does: PillarDeskModel.does(I)V -/
theorem dX12_does_0 : decode cX12_does 0 = .ok (.iload_n 1, 1) := by decide +kernel
theorem dX12_does_1 : decode cX12_does 1 = .ok (.bipush 20, 2) := by decide +kernel
theorem dX12_does_3 : decode cX12_does 3 = .ok (.if_icmp .ge 17, 3) := by decide +kernel
theorem dX12_does_6 : decode cX12_does 6 = .ok (.aload_n 0, 1) := by decide +kernel
theorem dX12_does_7 : decode cX12_does 7 = .ok (.getfield 13, 3) := by decide +kernel
theorem dX12_does_10 : decode cX12_does 10 = .ok (.bipush 74, 2) := by decide +kernel
theorem dX12_does_12 : decode cX12_does 12 = .ok (.iload_n 1, 1) := by decide +kernel
theorem dX12_does_13 : decode cX12_does 13 = .ok (.bipush 10, 2) := by decide +kernel
theorem dX12_does_15 : decode cX12_does 15 = .ok (.isub, 1) := by decide +kernel
theorem dX12_does_16 : decode cX12_does 16 = .ok (.iastore, 1) := by decide +kernel
theorem dX12_does_17 : decode cX12_does 17 = .ok (.goto 69, 3) := by decide +kernel
theorem dX12_does_20 : decode cX12_does 20 = .ok (.iload_n 1, 1) := by decide +kernel
theorem dX12_does_21 : decode cX12_does 21 = .ok (.sipush 10000, 3) := by decide +kernel
theorem dX12_does_24 : decode cX12_does 24 = .ok (.if_icmp .ge 32, 3) := by decide +kernel
theorem dX12_does_27 : decode cX12_does 27 = .ok (.aload_n 0, 1) := by decide +kernel
theorem dX12_does_28 : decode cX12_does 28 = .ok (.getfield 13, 3) := by decide +kernel
theorem dX12_does_31 : decode cX12_does 31 = .ok (.bipush 66, 2) := by decide +kernel
theorem dX12_does_33 : decode cX12_does 33 = .ok (.iload_n 1, 1) := by decide +kernel
theorem dX12_does_34 : decode cX12_does 34 = .ok (.sipush 1000, 3) := by decide +kernel
theorem dX12_does_37 : decode cX12_does 37 = .ok (.idiv, 1) := by decide +kernel
theorem dX12_does_38 : decode cX12_does 38 = .ok (.iadd, 1) := by decide +kernel
theorem dX12_does_39 : decode cX12_does 39 = .ok (.iconst 1, 1) := by decide +kernel
theorem dX12_does_40 : decode cX12_does 40 = .ok (.isub, 1) := by decide +kernel
theorem dX12_does_41 : decode cX12_does 41 = .ok (.dup2, 1) := by decide +kernel
theorem dX12_does_42 : decode cX12_does 42 = .ok (.iaload, 1) := by decide +kernel
theorem dX12_does_43 : decode cX12_does 43 = .ok (.iload_n 1, 1) := by decide +kernel
theorem dX12_does_44 : decode cX12_does 44 = .ok (.sipush 1000, 3) := by decide +kernel
theorem dX12_does_47 : decode cX12_does 47 = .ok (.irem, 1) := by decide +kernel
theorem dX12_does_48 : decode cX12_does 48 = .ok (.bipush 99, 2) := by decide +kernel
theorem dX12_does_50 : decode cX12_does 50 = .ok (.isub, 1) := by decide +kernel
theorem dX12_does_51 : decode cX12_does 51 = .ok (.iadd, 1) := by decide +kernel
theorem dX12_does_52 : decode cX12_does 52 = .ok (.iastore, 1) := by decide +kernel
theorem dX12_does_53 : decode cX12_does 53 = .ok (.goto 33, 3) := by decide +kernel
theorem dX12_does_56 : decode cX12_does 56 = .ok (.aload_n 0, 1) := by decide +kernel
theorem dX12_does_57 : decode cX12_does 57 = .ok (.getfield 13, 3) := by decide +kernel
theorem dX12_does_60 : decode cX12_does 60 = .ok (.bipush 75, 2) := by decide +kernel
theorem dX12_does_62 : decode cX12_does 62 = .ok (.iload_n 1, 1) := by decide +kernel
theorem dX12_does_63 : decode cX12_does 63 = .ok (.sipush 10000, 3) := by decide +kernel
theorem dX12_does_66 : decode cX12_does 66 = .ok (.isub, 1) := by decide +kernel
theorem dX12_does_67 : decode cX12_does 67 = .ok (.sipush 2000, 3) := by decide +kernel
theorem dX12_does_70 : decode cX12_does 70 = .ok (.idiv, 1) := by decide +kernel
theorem dX12_does_71 : decode cX12_does 71 = .ok (.iadd, 1) := by decide +kernel
theorem dX12_does_72 : decode cX12_does 72 = .ok (.iload_n 1, 1) := by decide +kernel
theorem dX12_does_73 : decode cX12_does 73 = .ok (.sipush 10000, 3) := by decide +kernel
theorem dX12_does_76 : decode cX12_does 76 = .ok (.isub, 1) := by decide +kernel
theorem dX12_does_77 : decode cX12_does 77 = .ok (.sipush 2000, 3) := by decide +kernel
theorem dX12_does_80 : decode cX12_does 80 = .ok (.irem, 1) := by decide +kernel
theorem dX12_does_81 : decode cX12_does 81 = .ok (.sipush 999, 3) := by decide +kernel
theorem dX12_does_84 : decode cX12_does 84 = .ok (.isub, 1) := by decide +kernel
theorem dX12_does_85 : decode cX12_does 85 = .ok (.iastore, 1) := by decide +kernel
theorem dX12_does_86 : decode cX12_does 86 = .ok (.return_, 1) := by decide +kernel
def f_X12_does  (p1 : Int32) (m : zz_Mem) : Option zz_Mem :=
  if (20 : Int32) ≤ p1 then (
  if (10000 : Int32) ≤ p1 then (
  zz_ix ((75 : Int32) + ((p1 - (10000 : Int32)) / (2000 : Int32))) 3531 <| zz_letM (zz_setI m 1 ((75 : Int32) + ((p1 - (10000 : Int32)) / (2000 : Int32))).toNatClampNeg (((p1 - (10000 : Int32)) - (p1 - (10000 : Int32)) / (2000 : Int32) * (2000 : Int32)) - (999 : Int32))) fun m1 =>
  some m1)
  else (
  zz_ix (((66 : Int32) + (p1 / (1000 : Int32))) - (1 : Int32)) 3531 <|
  zz_ix (((66 : Int32) + (p1 / (1000 : Int32))) - (1 : Int32)) 3531 <| zz_letM (zz_setI m 1 (((66 : Int32) + (p1 / (1000 : Int32))) - (1 : Int32)).toNatClampNeg ((m.1 1 (((66 : Int32) + (p1 / (1000 : Int32))) - (1 : Int32)).toNatClampNeg) + ((p1 - p1 / (1000 : Int32) * (1000 : Int32)) - (99 : Int32)))) fun m2 =>
  some m2))
  else (
  zz_letM (zz_setI m 1 74 (p1 - (10 : Int32))) fun m3 =>
  some m3)
theorem k_X12_does {l : Launch} {G : zz_G} (hN : 26 ≤ zz_N G) : ∀ (p1 : Int32) (m : zz_Mem), zz_Con zz_shM l G mX12_does 0 [.ref (zz_a G 0), .int p1] zz_vV zz_mV (f_X12_does p1 m) m := by
  intro p1 m
  refine zz_con (lv := [(0, .ref (zz_a G 0)), (1, .int p1)]) (by decide +kernel) (Nat.le_of_ble_eq_true rfl) rfl ?_
  unfold f_X12_does
  refine zs_iload_n dX12_does_0 rfl 1 rfl ?_
  refine zs_bipush (v := (20 : Int32)) dX12_does_1 cb_20 ?_
  refine zs_icmp_ge (tgt := 20) dX12_does_3 (by decide) ?_ ?_
  · refine zs_iload_n dX12_does_20 rfl 1 rfl ?_
    refine zs_sipush (v := (10000 : Int32)) dX12_does_21 cs_10000 ?_
    refine zs_icmp_ge (tgt := 56) dX12_does_24 (by decide) ?_ ?_
    · refine zs_aload_n dX12_does_56 rfl 0 rfl ?_
      refine zs_getR fl_X12_13 dX12_does_57 (shm_0 hN) rfl ?_
      refine zs_bipush (v := (75 : Int32)) dX12_does_60 cb_75 ?_
      refine zs_iload_n dX12_does_62 rfl 1 rfl ?_
      refine zs_sipush (v := (10000 : Int32)) dX12_does_63 cs_10000 ?_
      refine zs_isub dX12_does_66 ?_
      refine zs_sipush (v := (2000 : Int32)) dX12_does_67 cs_2000 ?_
      refine zs_idiv dX12_does_70 (by decide) ?_
      refine zs_iadd dX12_does_71 ?_
      refine zs_iload_n dX12_does_72 rfl 1 rfl ?_
      refine zs_sipush (v := (10000 : Int32)) dX12_does_73 cs_10000 ?_
      refine zs_isub dX12_does_76 ?_
      refine zs_sipush (v := (2000 : Int32)) dX12_does_77 cs_2000 ?_
      refine zs_irem dX12_does_80 (by decide) ?_
      refine zs_sipush (v := (999 : Int32)) dX12_does_81 cs_999 ?_
      refine zs_isub dX12_does_84 ?_
      refine zs_iastG dX12_does_85 (shm_1 hN) (fun m1 => ?_)
      exact zs_vret dX12_does_86 rfl rfl rfl
    · refine zs_aload_n dX12_does_27 rfl 0 rfl ?_
      refine zs_getR fl_X12_13 dX12_does_28 (shm_0 hN) rfl ?_
      refine zs_bipush (v := (66 : Int32)) dX12_does_31 cb_66 ?_
      refine zs_iload_n dX12_does_33 rfl 1 rfl ?_
      refine zs_sipush (v := (1000 : Int32)) dX12_does_34 cs_1000 ?_
      refine zs_idiv dX12_does_37 (by decide) ?_
      refine zs_iadd dX12_does_38 ?_
      refine zs_iconst (v := (1 : Int32)) dX12_does_39 ci_1 ?_
      refine zs_isub dX12_does_40 ?_
      refine zs_dup2_11 dX12_does_41 rfl rfl ?_
      refine zs_ialdG dX12_does_42 (shm_1 hN) ?_
      refine zs_iload_n dX12_does_43 rfl 1 rfl ?_
      refine zs_sipush (v := (1000 : Int32)) dX12_does_44 cs_1000 ?_
      refine zs_irem dX12_does_47 (by decide) ?_
      refine zs_bipush (v := (99 : Int32)) dX12_does_48 cb_99 ?_
      refine zs_isub dX12_does_50 ?_
      refine zs_iadd dX12_does_51 ?_
      refine zs_iastG dX12_does_52 (shm_1 hN) (fun m2 => ?_)
      refine zs_goto (tgt := 86) dX12_does_53 (by decide) ?_
      exact zs_vret dX12_does_86 rfl rfl rfl
  · refine zs_aload_n dX12_does_6 rfl 0 rfl ?_
    refine zs_getR fl_X12_13 dX12_does_7 (shm_0 hN) rfl ?_
    refine zs_bipush (v := (74 : Int32)) dX12_does_10 cb_74 ?_
    refine zs_iload_n dX12_does_12 rfl 1 rfl ?_
    refine zs_bipush (v := (10 : Int32)) dX12_does_13 cb_10 ?_
    refine zs_isub dX12_does_15 ?_
    refine zs_iastC dX12_does_16 (shm_1 hN) vin_74_3531 clp_74 (fun m3 => ?_)
    refine zs_goto (tgt := 86) dX12_does_17 (by decide) ?_
    exact zs_vret dX12_does_86 rfl rfl rfl
/-! X12_tells: PillarDeskModel.tells(I)I -/
theorem dX12_tells_0 : decode cX12_tells 0 = .ok (.aload_n 0, 1) := by decide +kernel
theorem dX12_tells_1 : decode cX12_tells 1 = .ok (.iconst 0, 1) := by decide +kernel
theorem dX12_tells_2 : decode cX12_tells 2 = .ok (.putfield 353, 3) := by decide +kernel
theorem dX12_tells_5 : decode cX12_tells 5 = .ok (.iconst 0, 1) := by decide +kernel
theorem dX12_tells_6 : decode cX12_tells 6 = .ok (.istore_n 2, 1) := by decide +kernel
theorem dX12_tells_7 : decode cX12_tells 7 = .ok (.iload_n 2, 1) := by decide +kernel
theorem dX12_tells_8 : decode cX12_tells 8 = .ok (.aload_n 0, 1) := by decide +kernel
theorem dX12_tells_9 : decode cX12_tells 9 = .ok (.getfield 88, 3) := by decide +kernel
theorem dX12_tells_12 : decode cX12_tells 12 = .ok (.iload_n 1, 1) := by decide +kernel
theorem dX12_tells_13 : decode cX12_tells 13 = .ok (.iaload, 1) := by decide +kernel
theorem dX12_tells_14 : decode cX12_tells 14 = .ok (.if_icmp .ge 53, 3) := by decide +kernel
theorem dX12_tells_17 : decode cX12_tells 17 = .ok (.aload_n 0, 1) := by decide +kernel
theorem dX12_tells_18 : decode cX12_tells 18 = .ok (.aload_n 0, 1) := by decide +kernel
theorem dX12_tells_19 : decode cX12_tells 19 = .ok (.aload_n 0, 1) := by decide +kernel
theorem dX12_tells_20 : decode cX12_tells 20 = .ok (.getfield 91, 3) := by decide +kernel
theorem dX12_tells_23 : decode cX12_tells 23 = .ok (.bipush 40, 2) := by decide +kernel
theorem dX12_tells_25 : decode cX12_tells 25 = .ok (.iload_n 1, 1) := by decide +kernel
theorem dX12_tells_26 : decode cX12_tells 26 = .ok (.imul, 1) := by decide +kernel
theorem dX12_tells_27 : decode cX12_tells 27 = .ok (.iload_n 2, 1) := by decide +kernel
theorem dX12_tells_28 : decode cX12_tells 28 = .ok (.iadd, 1) := by decide +kernel
theorem dX12_tells_29 : decode cX12_tells 29 = .ok (.laload, 1) := by decide +kernel
theorem dX12_tells_30 : decode cX12_tells 30 = .ok (.invokevirtual 356, 3) := by decide +kernel
theorem dX12_tells_33 : decode cX12_tells 33 = .ok (.putfield 353, 3) := by decide +kernel
theorem dX12_tells_36 : decode cX12_tells 36 = .ok (.aload_n 0, 1) := by decide +kernel
theorem dX12_tells_37 : decode cX12_tells 37 = .ok (.getfield 353, 3) := by decide +kernel
theorem dX12_tells_40 : decode cX12_tells 40 = .ok (.ifCond .eq 5, 3) := by decide +kernel
theorem dX12_tells_43 : decode cX12_tells 43 = .ok (.iload_n 2, 1) := by decide +kernel
theorem dX12_tells_44 : decode cX12_tells 44 = .ok (.ireturn, 1) := by decide +kernel
theorem dX12_tells_45 : decode cX12_tells 45 = .ok (.aload_n 0, 1) := by decide +kernel
theorem dX12_tells_46 : decode cX12_tells 46 = .ok (.aload_n 0, 1) := by decide +kernel
theorem dX12_tells_47 : decode cX12_tells 47 = .ok (.getfield 91, 3) := by decide +kernel
theorem dX12_tells_50 : decode cX12_tells 50 = .ok (.bipush 40, 2) := by decide +kernel
theorem dX12_tells_52 : decode cX12_tells 52 = .ok (.iload_n 1, 1) := by decide +kernel
theorem dX12_tells_53 : decode cX12_tells 53 = .ok (.imul, 1) := by decide +kernel
theorem dX12_tells_54 : decode cX12_tells 54 = .ok (.iload_n 2, 1) := by decide +kernel
theorem dX12_tells_55 : decode cX12_tells 55 = .ok (.iadd, 1) := by decide +kernel
theorem dX12_tells_56 : decode cX12_tells 56 = .ok (.laload, 1) := by decide +kernel
theorem dX12_tells_57 : decode cX12_tells 57 = .ok (.l2i, 1) := by decide +kernel
theorem dX12_tells_58 : decode cX12_tells 58 = .ok (.invokevirtual 360, 3) := by decide +kernel
theorem dX12_tells_61 : decode cX12_tells 61 = .ok (.iinc 2 1, 3) := by decide +kernel
theorem dX12_tells_64 : decode cX12_tells 64 = .ok (.goto (-57), 3) := by decide +kernel
theorem dX12_tells_67 : decode cX12_tells 67 = .ok (.aload_n 0, 1) := by decide +kernel
theorem dX12_tells_68 : decode cX12_tells 68 = .ok (.getfield 88, 3) := by decide +kernel
theorem dX12_tells_71 : decode cX12_tells 71 = .ok (.iload_n 1, 1) := by decide +kernel
theorem dX12_tells_72 : decode cX12_tells 72 = .ok (.iaload, 1) := by decide +kernel
theorem dX12_tells_73 : decode cX12_tells 73 = .ok (.ireturn, 1) := by decide +kernel
def f_X12_tells_7   : Nat → Int32 → Int32 → zz_Mem → Option (Int32 × zz_Mem)
  | 0, _, _, _ => none
  | n + 1, v1, v2, m =>
  zz_ix v1 4 <|
  if (m.1 24 v1.toNatClampNeg) ≤ v2 then (
  zz_ix v1 4 <|
  some (m.1 24 v1.toNatClampNeg, m))
  else (
  zz_ix (((40 : Int32) * v1) + v2) 160 <|
  zz_bndR (f_X12_whyNot m (m.2.1 25 (((40 : Int32) * v1) + v2).toNatClampNeg)) fun r1 =>
  zz_letM (zz_setI m 0 30 r1) fun m2 =>
  if (m2.1 0 30) = 0 then (
  zz_ix (((40 : Int32) * v1) + v2) 160 <|
  zz_bndR (f_X12_does ((m2.2.1 25 (((40 : Int32) * v1) + v2).toNatClampNeg).toInt32) m2) fun m3 =>
  zz_letI (v2 + (1 : Int32)) fun x4 =>
  f_X12_tells_7 n v1 x4 m3)
  else (
  some (v2, m2)))
theorem t_X12_tells_7 {l : Launch} {G : zz_G} (hN : 26 ≤ zz_N G)  : ∀ (n : Nat) (v1 : Int32) (v2 : Int32) (m : zz_Mem), zz_Sim zz_shM l G mX12_tells 4 zz_vI zz_m2 (f_X12_tells_7 n v1 v2 m) 7 [(0, .ref (zz_a G 0)), (1, .int v1), (2, .int v2)] [] m := by
  intro n
  induction n with
  | zero => intro _ _ _; exact zs_none
  | succ n ih =>
    intro v1 v2 m
    rw [f_X12_tells_7]
    refine zs_iload_n dX12_tells_7 rfl 2 rfl ?_
    refine zs_aload_n dX12_tells_8 rfl 0 rfl ?_
    refine zs_getR fl_X12_88 dX12_tells_9 (shm_0 hN) rfl ?_
    refine zs_iload_n dX12_tells_12 rfl 1 rfl ?_
    refine zs_ialdG dX12_tells_13 (shm_24 hN) ?_
    refine zs_icmp_ge (tgt := 67) dX12_tells_14 (by decide) ?_ ?_
    · refine zs_aload_n dX12_tells_67 rfl 0 rfl ?_
      refine zs_getR fl_X12_88 dX12_tells_68 (shm_0 hN) rfl ?_
      refine zs_iload_n dX12_tells_71 rfl 1 rfl ?_
      refine zs_ialdG dX12_tells_72 (shm_24 hN) ?_
      exact zs_iret dX12_tells_73 rfl rfl rfl
    · refine zs_aload_n dX12_tells_17 rfl 0 rfl ?_
      refine zs_aload_n dX12_tells_18 rfl 0 rfl ?_
      refine zs_aload_n dX12_tells_19 rfl 0 rfl ?_
      refine zs_getR fl_X12_91 dX12_tells_20 (shm_0 hN) rfl ?_
      refine zs_bipush (v := (40 : Int32)) dX12_tells_23 cb_40 ?_
      refine zs_iload_n dX12_tells_25 rfl 1 rfl ?_
      refine zs_imul dX12_tells_26 ?_
      refine zs_iload_n dX12_tells_27 rfl 2 rfl ?_
      refine zs_iadd dX12_tells_28 ?_
      refine zs_laldG dX12_tells_29 (shm_25 hN) ?_
      refine zs_cV_iR (rest := [.ref (zz_a G 0)]) (k_X12_whyNot hN _ _) dX12_tells_30 lv_X12_356 ok_X12_whyNot (zz_rcv_o (shm_0 hN) rfl) (Nat.le_of_ble_eq_true rfl) rfl rfl (Nat.le_of_ble_eq_true rfl) (fun r1 => ?_)
      refine zs_putI fl_X12_353 dX12_tells_33 (shm_0 hN) rfl ⟨rfl, rfl⟩ (fun m2 => ?_)
      refine zs_aload_n dX12_tells_36 rfl 0 rfl ?_
      refine zs_getI fl_X12_353 dX12_tells_37 (shm_0 hN) rfl ?_
      refine zs_if_eq (tgt := 45) dX12_tells_40 (by decide) ?_ ?_
      · refine zs_aload_n dX12_tells_45 rfl 0 rfl ?_
        refine zs_aload_n dX12_tells_46 rfl 0 rfl ?_
        refine zs_getR fl_X12_91 dX12_tells_47 (shm_0 hN) rfl ?_
        refine zs_bipush (v := (40 : Int32)) dX12_tells_50 cb_40 ?_
        refine zs_iload_n dX12_tells_52 rfl 1 rfl ?_
        refine zs_imul dX12_tells_53 ?_
        refine zs_iload_n dX12_tells_54 rfl 2 rfl ?_
        refine zs_iadd dX12_tells_55 ?_
        refine zs_laldG dX12_tells_56 (shm_25 hN) ?_
        refine zs_l2i dX12_tells_57 ?_
        refine zs_cV_vW (rest := []) (k_X12_does hN _ _) dX12_tells_58 lv_X12_360 ok_X12_does (zz_rcv_o (shm_0 hN) rfl) (Nat.le_of_ble_eq_true rfl) rfl rfl (Nat.le_of_ble_eq_true rfl) (fun m3 => ?_)
        refine zs_iinc (fun y => [(2, .int y), (0, .ref (zz_a G 0)), (1, .int v1)]) dX12_tells_61 2 rfl ci_1 (Nat.le_of_ble_eq_true rfl) (fun _ => rfl) (fun x4 => ?_)
        refine zs_goto (tgt := 7) dX12_tells_64 (by decide) ?_
        refine zs_sub [1, 2, 0] rfl ?_
        exact ih _ _ _
      · refine zs_iload_n dX12_tells_43 rfl 2 rfl ?_
        exact zs_iret dX12_tells_44 rfl rfl rfl
def f_X12_tells  (p1 : Int32) (m : zz_Mem) : Option (Int32 × zz_Mem) :=
  zz_letM (zz_setI m 0 30 (0 : Int32)) fun m1 =>
  f_X12_tells_7 zz_fuel p1 (0 : Int32) m1
theorem k_X12_tells {l : Launch} {G : zz_G} (hN : 26 ≤ zz_N G) : ∀ (p1 : Int32) (m : zz_Mem), zz_Con zz_shM l G mX12_tells 4 [.ref (zz_a G 0), .int p1] zz_vI zz_m2 (f_X12_tells p1 m) m := by
  intro p1 m
  refine zz_con (lv := [(0, .ref (zz_a G 0)), (1, .int p1)]) (by decide +kernel) (Nat.le_of_ble_eq_true rfl) rfl ?_
  unfold f_X12_tells
  refine zs_aload_n dX12_tells_0 rfl 0 rfl ?_
  refine zs_iconst (v := (0 : Int32)) dX12_tells_1 ci_0 ?_
  refine zs_putI fl_X12_353 dX12_tells_2 (shm_0 hN) rfl ⟨rfl, rfl⟩ (fun m1 => ?_)
  refine zs_iconst (v := (0 : Int32)) dX12_tells_5 ci_0 ?_
  refine zs_istore_n [(2, .int (0 : Int32)), (0, .ref (zz_a G 0)), (1, .int p1)] dX12_tells_6 rfl (Nat.le_of_ble_eq_true rfl) rfl ?_
  refine zs_sub [1, 2, 0] rfl ?_
  exact t_X12_tells_7 hN zz_fuel _ _ _
/-! X12_noTray: PillarDeskModel.noTray(I)I -/
theorem dX12_noTray_0 : decode cX12_noTray 0 = .ok (.iload_n 1, 1) := by decide +kernel
theorem dX12_noTray_1 : decode cX12_noTray 1 = .ok (.i2l, 1) := by decide +kernel
theorem dX12_noTray_2 : decode cX12_noTray 2 = .ok (.lconst 0, 1) := by decide +kernel
theorem dX12_noTray_3 : decode cX12_noTray 3 = .ok (.ldc2_w 363, 3) := by decide +kernel
theorem dX12_noTray_6 : decode cX12_noTray 6 = .ok (.invokestatic 163, 3) := by decide +kernel
theorem dX12_noTray_9 : decode cX12_noTray 9 = .ok (.ifCond .ne 8, 3) := by decide +kernel
theorem dX12_noTray_12 : decode cX12_noTray 12 = .ok (.bipush (-2), 2) := by decide +kernel
theorem dX12_noTray_14 : decode cX12_noTray 14 = .ok (.goto 19, 3) := by decide +kernel
theorem dX12_noTray_17 : decode cX12_noTray 17 = .ok (.aload_n 0, 1) := by decide +kernel
theorem dX12_noTray_18 : decode cX12_noTray 18 = .ok (.getfield 85, 3) := by decide +kernel
theorem dX12_noTray_21 : decode cX12_noTray 21 = .ok (.iload_n 1, 1) := by decide +kernel
theorem dX12_noTray_22 : decode cX12_noTray 22 = .ok (.iaload, 1) := by decide +kernel
theorem dX12_noTray_23 : decode cX12_noTray 23 = .ok (.iconst (-1), 1) := by decide +kernel
theorem dX12_noTray_24 : decode cX12_noTray 24 = .ok (.if_icmp .ne 8, 3) := by decide +kernel
theorem dX12_noTray_27 : decode cX12_noTray 27 = .ok (.bipush (-6), 2) := by decide +kernel
theorem dX12_noTray_29 : decode cX12_noTray 29 = .ok (.goto 4, 3) := by decide +kernel
theorem dX12_noTray_32 : decode cX12_noTray 32 = .ok (.iconst 0, 1) := by decide +kernel
theorem dX12_noTray_33 : decode cX12_noTray 33 = .ok (.ireturn, 1) := by decide +kernel
def f_X12_noTray (m : zz_Mem) (p1 : Int32) : Option Int32 :=
  zz_bndR (f_X12_within p1.toInt64 (0 : Int64) (3 : Int64)) fun r1 =>
  if r1 = 0 then (
  some (-2 : Int32))
  else (
  zz_ix p1 4 <|
  if (m.1 23 p1.toNatClampNeg) = (-1 : Int32) then (
  some (-6 : Int32))
  else (
  some (0 : Int32)))
theorem k_X12_noTray {l : Launch} {G : zz_G} (hN : 26 ≤ zz_N G) : ∀ (p1 : Int32) (m : zz_Mem), zz_Con zz_shM l G mX12_noTray 1 [.ref (zz_a G 0), .int p1] zz_vIr (zz_mC m) (f_X12_noTray m p1) m := by
  intro p1 m
  refine zz_con (lv := [(0, .ref (zz_a G 0)), (1, .int p1)]) (by decide +kernel) (Nat.le_of_ble_eq_true rfl) rfl ?_
  unfold f_X12_noTray
  refine zs_iload_n dX12_noTray_0 rfl 1 rfl ?_
  refine zs_i2l dX12_noTray_1 ?_
  refine zs_lconst (v := (0 : Int64)) dX12_noTray_2 rfl ?_
  refine zs_ldc2 (v := (3 : Int64)) dX12_noTray_3 kc_X12_363 ?_
  refine zs_cS_iR (rest := []) (k_X12_within hN _ _ _ _) dX12_noTray_6 ls_X12_163 ok_X12_within (Nat.le_of_ble_eq_true rfl) rfl rfl (Nat.le_of_ble_eq_true rfl) (fun r1 => ?_)
  refine zs_if_ne (tgt := 17) dX12_noTray_9 (by decide) ?_ ?_
  · refine zs_aload_n dX12_noTray_17 rfl 0 rfl ?_
    refine zs_getR fl_X12_85 dX12_noTray_18 (shm_0 hN) rfl ?_
    refine zs_iload_n dX12_noTray_21 rfl 1 rfl ?_
    refine zs_ialdG dX12_noTray_22 (shm_23 hN) ?_
    refine zs_iconst (v := (-1 : Int32)) dX12_noTray_23 ci_m1 ?_
    refine zs_icmp_ne (tgt := 32) dX12_noTray_24 (by decide) ?_ ?_
    · refine zs_iconst (v := (0 : Int32)) dX12_noTray_32 ci_0 ?_
      exact zs_iret dX12_noTray_33 rfl rfl rfl
    · refine zs_bipush (v := (-6 : Int32)) dX12_noTray_27 cb_m6 ?_
      refine zs_goto (tgt := 33) dX12_noTray_29 (by decide) ?_
      exact zs_iret dX12_noTray_33 rfl rfl rfl
  · refine zs_bipush (v := (-2 : Int32)) dX12_noTray_12 cb_m2 ?_
    refine zs_goto (tgt := 33) dX12_noTray_14 (by decide) ?_
    exact zs_iret dX12_noTray_33 rfl rfl rfl
/-! X12_ratesSum: PillarDeskModel.ratesSum()I -/
theorem dX12_ratesSum_0 : decode cX12_ratesSum 0 = .ok (.iconst 0, 1) := by decide +kernel
theorem dX12_ratesSum_1 : decode cX12_ratesSum 1 = .ok (.istore_n 1, 1) := by decide +kernel
theorem dX12_ratesSum_2 : decode cX12_ratesSum 2 = .ok (.iconst 0, 1) := by decide +kernel
theorem dX12_ratesSum_3 : decode cX12_ratesSum 3 = .ok (.istore_n 2, 1) := by decide +kernel
theorem dX12_ratesSum_4 : decode cX12_ratesSum 4 = .ok (.iload_n 2, 1) := by decide +kernel
theorem dX12_ratesSum_5 : decode cX12_ratesSum 5 = .ok (.aload_n 0, 1) := by decide +kernel
theorem dX12_ratesSum_6 : decode cX12_ratesSum 6 = .ok (.getfield 13, 3) := by decide +kernel
theorem dX12_ratesSum_9 : decode cX12_ratesSum 9 = .ok (.iconst 4, 1) := by decide +kernel
theorem dX12_ratesSum_10 : decode cX12_ratesSum 10 = .ok (.iaload, 1) := by decide +kernel
theorem dX12_ratesSum_11 : decode cX12_ratesSum 11 = .ok (.if_icmp .ge 21, 3) := by decide +kernel
theorem dX12_ratesSum_14 : decode cX12_ratesSum 14 = .ok (.iload_n 1, 1) := by decide +kernel
theorem dX12_ratesSum_15 : decode cX12_ratesSum 15 = .ok (.aload_n 0, 1) := by decide +kernel
theorem dX12_ratesSum_16 : decode cX12_ratesSum 16 = .ok (.getfield 13, 3) := by decide +kernel
theorem dX12_ratesSum_19 : decode cX12_ratesSum 19 = .ok (.bipush 66, 2) := by decide +kernel
theorem dX12_ratesSum_21 : decode cX12_ratesSum 21 = .ok (.iload_n 2, 1) := by decide +kernel
theorem dX12_ratesSum_22 : decode cX12_ratesSum 22 = .ok (.iadd, 1) := by decide +kernel
theorem dX12_ratesSum_23 : decode cX12_ratesSum 23 = .ok (.iaload, 1) := by decide +kernel
theorem dX12_ratesSum_24 : decode cX12_ratesSum 24 = .ok (.iadd, 1) := by decide +kernel
theorem dX12_ratesSum_25 : decode cX12_ratesSum 25 = .ok (.istore_n 1, 1) := by decide +kernel
theorem dX12_ratesSum_26 : decode cX12_ratesSum 26 = .ok (.iinc 2 1, 3) := by decide +kernel
theorem dX12_ratesSum_29 : decode cX12_ratesSum 29 = .ok (.goto (-25), 3) := by decide +kernel
theorem dX12_ratesSum_32 : decode cX12_ratesSum 32 = .ok (.iload_n 1, 1) := by decide +kernel
theorem dX12_ratesSum_33 : decode cX12_ratesSum 33 = .ok (.ireturn, 1) := by decide +kernel
def f_X12_ratesSum_4 (m : zz_Mem)  : Nat → Int32 → Int32 → Option Int32
  | 0, _, _ => none
  | n + 1, v1, v2 =>
  if (m.1 1 4) ≤ v2 then (
  some v1)
  else (
  zz_ix ((66 : Int32) + v2) 3531 <|
  zz_letI (v1 + (m.1 1 ((66 : Int32) + v2).toNatClampNeg)) fun x1 =>
  zz_letI (v2 + (1 : Int32)) fun x2 =>
  f_X12_ratesSum_4 m n x1 x2)
theorem t_X12_ratesSum_4 {l : Launch} {G : zz_G} (hN : 26 ≤ zz_N G) {m : zz_Mem}  : ∀ (n : Nat) (v1 : Int32) (v2 : Int32), zz_Sim zz_shM l G mX12_ratesSum 0 zz_vIr (zz_mC m) (f_X12_ratesSum_4 m n v1 v2) 4 [(0, .ref (zz_a G 0)), (1, .int v1), (2, .int v2)] [] m := by
  intro n
  induction n with
  | zero => intro _ _; exact zs_none
  | succ n ih =>
    intro v1 v2
    rw [f_X12_ratesSum_4]
    refine zs_iload_n dX12_ratesSum_4 rfl 2 rfl ?_
    refine zs_aload_n dX12_ratesSum_5 rfl 0 rfl ?_
    refine zs_getR fl_X12_13 dX12_ratesSum_6 (shm_0 hN) rfl ?_
    refine zs_iconst (v := (4 : Int32)) dX12_ratesSum_9 ci_4 ?_
    refine zs_ialdC dX12_ratesSum_10 (shm_1 hN) vin_4_3531 clp_4 ?_
    refine zs_icmp_ge (tgt := 32) dX12_ratesSum_11 (by decide) ?_ ?_
    · refine zs_iload_n dX12_ratesSum_32 rfl 1 rfl ?_
      exact zs_iret dX12_ratesSum_33 rfl rfl rfl
    · refine zs_iload_n dX12_ratesSum_14 rfl 1 rfl ?_
      refine zs_aload_n dX12_ratesSum_15 rfl 0 rfl ?_
      refine zs_getR fl_X12_13 dX12_ratesSum_16 (shm_0 hN) rfl ?_
      refine zs_bipush (v := (66 : Int32)) dX12_ratesSum_19 cb_66 ?_
      refine zs_iload_n dX12_ratesSum_21 rfl 2 rfl ?_
      refine zs_iadd dX12_ratesSum_22 ?_
      refine zs_ialdG dX12_ratesSum_23 (shm_1 hN) ?_
      refine zs_iadd dX12_ratesSum_24 ?_
      refine zs_letI (fun x1 => ?_)
      refine zs_istore_n [(1, .int x1), (0, .ref (zz_a G 0)), (2, .int v2)] dX12_ratesSum_25 rfl (Nat.le_of_ble_eq_true rfl) rfl ?_
      refine zs_iinc (fun y => [(2, .int y), (1, .int x1), (0, .ref (zz_a G 0))]) dX12_ratesSum_26 2 rfl ci_1 (Nat.le_of_ble_eq_true rfl) (fun _ => rfl) (fun x2 => ?_)
      refine zs_goto (tgt := 4) dX12_ratesSum_29 (by decide) ?_
      refine zs_sub [2, 1, 0] rfl ?_
      exact ih _ _
def f_X12_ratesSum (m : zz_Mem)  : Option Int32 :=
  f_X12_ratesSum_4 m zz_fuel (0 : Int32) (0 : Int32)
theorem k_X12_ratesSum {l : Launch} {G : zz_G} (hN : 26 ≤ zz_N G) : ∀ (m : zz_Mem), zz_Con zz_shM l G mX12_ratesSum 0 [.ref (zz_a G 0)] zz_vIr (zz_mC m) (f_X12_ratesSum m) m := by
  intro m
  refine zz_con (lv := [(0, .ref (zz_a G 0))]) (by decide +kernel) (Nat.le_of_ble_eq_true rfl) rfl ?_
  unfold f_X12_ratesSum
  refine zs_iconst (v := (0 : Int32)) dX12_ratesSum_0 ci_0 ?_
  refine zs_istore_n [(1, .int (0 : Int32)), (0, .ref (zz_a G 0))] dX12_ratesSum_1 rfl (Nat.le_of_ble_eq_true rfl) rfl ?_
  refine zs_iconst (v := (0 : Int32)) dX12_ratesSum_2 ci_0 ?_
  refine zs_istore_n [(2, .int (0 : Int32)), (1, .int (0 : Int32)), (0, .ref (zz_a G 0))] dX12_ratesSum_3 rfl (Nat.le_of_ble_eq_true rfl) rfl ?_
  refine zs_sub [2, 1, 0] rfl ?_
  exact t_X12_ratesSum_4 hN zz_fuel _ _
/-! X12_judge: PillarDeskModel.judge(II)I -/
theorem dX12_judge_0 : decode cX12_judge 0 = .ok (.aload_n 0, 1) := by decide +kernel
theorem dX12_judge_1 : decode cX12_judge 1 = .ok (.iconst 0, 1) := by decide +kernel
theorem dX12_judge_2 : decode cX12_judge 2 = .ok (.putfield 1, 3) := by decide +kernel
theorem dX12_judge_5 : decode cX12_judge 5 = .ok (.iload_n 2, 1) := by decide +kernel
theorem dX12_judge_6 : decode cX12_judge 6 = .ok (.i2l, 1) := by decide +kernel
theorem dX12_judge_7 : decode cX12_judge 7 = .ok (.lconst 0, 1) := by decide +kernel
theorem dX12_judge_8 : decode cX12_judge 8 = .ok (.ldc2_w 363, 3) := by decide +kernel
theorem dX12_judge_11 : decode cX12_judge 11 = .ok (.invokestatic 163, 3) := by decide +kernel
theorem dX12_judge_14 : decode cX12_judge 14 = .ok (.ifCond .ne 6, 3) := by decide +kernel
theorem dX12_judge_17 : decode cX12_judge 17 = .ok (.bipush (-2), 2) := by decide +kernel
theorem dX12_judge_19 : decode cX12_judge 19 = .ok (.ireturn, 1) := by decide +kernel
theorem dX12_judge_20 : decode cX12_judge 20 = .ok (.aload_n 0, 1) := by decide +kernel
theorem dX12_judge_21 : decode cX12_judge 21 = .ok (.iload_n 1, 1) := by decide +kernel
theorem dX12_judge_22 : decode cX12_judge 22 = .ok (.invokevirtual 365, 3) := by decide +kernel
theorem dX12_judge_25 : decode cX12_judge 25 = .ok (.istore_n 3, 1) := by decide +kernel
theorem dX12_judge_26 : decode cX12_judge 26 = .ok (.iload_n 3, 1) := by decide +kernel
theorem dX12_judge_27 : decode cX12_judge 27 = .ok (.ifCond .eq 5, 3) := by decide +kernel
theorem dX12_judge_30 : decode cX12_judge 30 = .ok (.iload_n 3, 1) := by decide +kernel
theorem dX12_judge_31 : decode cX12_judge 31 = .ok (.ireturn, 1) := by decide +kernel
theorem dX12_judge_32 : decode cX12_judge 32 = .ok (.aload_n 0, 1) := by decide +kernel
theorem dX12_judge_33 : decode cX12_judge 33 = .ok (.invokevirtual 328, 3) := by decide +kernel
theorem dX12_judge_36 : decode cX12_judge 36 = .ok (.aload_n 0, 1) := by decide +kernel
theorem dX12_judge_37 : decode cX12_judge 37 = .ok (.iload_n 1, 1) := by decide +kernel
theorem dX12_judge_38 : decode cX12_judge 38 = .ok (.invokevirtual 368, 3) := by decide +kernel
theorem dX12_judge_41 : decode cX12_judge 41 = .ok (.istore 4, 2) := by decide +kernel
theorem dX12_judge_43 : decode cX12_judge 43 = .ok (.aload_n 0, 1) := by decide +kernel
theorem dX12_judge_44 : decode cX12_judge 44 = .ok (.invokevirtual 371, 3) := by decide +kernel
theorem dX12_judge_47 : decode cX12_judge 47 = .ok (.istore 5, 2) := by decide +kernel
theorem dX12_judge_49 : decode cX12_judge 49 = .ok (.aload_n 0, 1) := by decide +kernel
theorem dX12_judge_50 : decode cX12_judge 50 = .ok (.invokevirtual 312, 3) := by decide +kernel
theorem dX12_judge_53 : decode cX12_judge 53 = .ok (.aload_n 0, 1) := by decide +kernel
theorem dX12_judge_54 : decode cX12_judge 54 = .ok (.getfield 57, 3) := by decide +kernel
theorem dX12_judge_57 : decode cX12_judge 57 = .ok (.aload_n 0, 1) := by decide +kernel
theorem dX12_judge_58 : decode cX12_judge 58 = .ok (.getfield 272, 3) := by decide +kernel
theorem dX12_judge_61 : decode cX12_judge 61 = .ok (.iconst 1, 1) := by decide +kernel
theorem dX12_judge_62 : decode cX12_judge 62 = .ok (.isub, 1) := by decide +kernel
theorem dX12_judge_63 : decode cX12_judge 63 = .ok (.iaload, 1) := by decide +kernel
theorem dX12_judge_64 : decode cX12_judge 64 = .ok (.sipush 1000, 3) := by decide +kernel
theorem dX12_judge_67 : decode cX12_judge 67 = .ok (.idiv, 1) := by decide +kernel
theorem dX12_judge_68 : decode cX12_judge 68 = .ok (.istore 6, 2) := by decide +kernel
theorem dX12_judge_70 : decode cX12_judge 70 = .ok (.aload_n 0, 1) := by decide +kernel
theorem dX12_judge_71 : decode cX12_judge 71 = .ok (.invokevirtual 374, 3) := by decide +kernel
theorem dX12_judge_74 : decode cX12_judge 74 = .ok (.iload_n 2, 1) := by decide +kernel
theorem dX12_judge_75 : decode cX12_judge 75 = .ok (.ifCond .ne 19, 3) := by decide +kernel
theorem dX12_judge_78 : decode cX12_judge 78 = .ok (.aload_n 0, 1) := by decide +kernel
theorem dX12_judge_79 : decode cX12_judge 79 = .ok (.getfield 353, 3) := by decide +kernel
theorem dX12_judge_82 : decode cX12_judge 82 = .ok (.ifCond .ne 7, 3) := by decide +kernel
theorem dX12_judge_85 : decode cX12_judge 85 = .ok (.iconst (-1), 1) := by decide +kernel
theorem dX12_judge_86 : decode cX12_judge 86 = .ok (.goto 32, 3) := by decide +kernel
theorem dX12_judge_89 : decode cX12_judge 89 = .ok (.iload 4, 2) := by decide +kernel
theorem dX12_judge_91 : decode cX12_judge 91 = .ok (.goto 27, 3) := by decide +kernel
theorem dX12_judge_94 : decode cX12_judge 94 = .ok (.iload_n 2, 1) := by decide +kernel
theorem dX12_judge_95 : decode cX12_judge 95 = .ok (.iconst 1, 1) := by decide +kernel
theorem dX12_judge_96 : decode cX12_judge 96 = .ok (.if_icmp .ne 10, 3) := by decide +kernel
theorem dX12_judge_99 : decode cX12_judge 99 = .ok (.aload_n 0, 1) := by decide +kernel
theorem dX12_judge_100 : decode cX12_judge 100 = .ok (.getfield 353, 3) := by decide +kernel
theorem dX12_judge_103 : decode cX12_judge 103 = .ok (.goto 15, 3) := by decide +kernel
theorem dX12_judge_106 : decode cX12_judge 106 = .ok (.iload_n 2, 1) := by decide +kernel
theorem dX12_judge_107 : decode cX12_judge 107 = .ok (.iconst 2, 1) := by decide +kernel
theorem dX12_judge_108 : decode cX12_judge 108 = .ok (.if_icmp .ne 8, 3) := by decide +kernel
theorem dX12_judge_111 : decode cX12_judge 111 = .ok (.iload 5, 2) := by decide +kernel
theorem dX12_judge_113 : decode cX12_judge 113 = .ok (.goto 5, 3) := by decide +kernel
theorem dX12_judge_116 : decode cX12_judge 116 = .ok (.iload 6, 2) := by decide +kernel
theorem dX12_judge_118 : decode cX12_judge 118 = .ok (.ireturn, 1) := by decide +kernel
def f_X12_judge  (p1 : Int32) (p2 : Int32) (m : zz_Mem) : Option (Int32 × zz_Mem) :=
  zz_letM (zz_setI m 0 0 (0 : Int32)) fun m1 =>
  zz_bndR (f_X12_within p2.toInt64 (0 : Int64) (3 : Int64)) fun r2 =>
  if r2 = 0 then (
  some ((-2 : Int32), m1))
  else (
  zz_bndR (f_X12_noTray m1 p1) fun r3 =>
  if r3 = 0 then (
  zz_bndR (f_X12_stores m1) fun m4 =>
  zz_bnd (f_X12_tells p1 m4) fun r5 m6 =>
  zz_bndR (f_X12_ratesSum m6) fun r7 =>
  zz_bndR (f_X12_laysCurve m6) fun m8 =>
  zz_ix ((m8.1 0 28) - (1 : Int32)) 9 <|
  zz_letI ((m8.1 14 ((m8.1 0 28) - (1 : Int32)).toNatClampNeg) / (1000 : Int32)) fun x9 =>
  zz_bndR (f_X12_isAgain m8) fun m10 =>
  if p2 = 0 then (
  if (m10.1 0 30) = 0 then (
  some ((-1 : Int32), m10))
  else (
  some (r5, m10)))
  else (
  if p2 = (1 : Int32) then (
  some (m10.1 0 30, m10))
  else (
  if p2 = (2 : Int32) then (
  some (r7, m10))
  else (
  some (x9, m10)))))
  else (
  some (r3, m1)))
theorem k_X12_judge {l : Launch} {G : zz_G} (hN : 26 ≤ zz_N G) : ∀ (p1 : Int32) (p2 : Int32) (m : zz_Mem), zz_Con zz_shM l G mX12_judge 6 [.ref (zz_a G 0), .int p1, .int p2] zz_vI zz_m2 (f_X12_judge p1 p2 m) m := by
  intro p1 p2 m
  refine zz_con (lv := [(0, .ref (zz_a G 0)), (1, .int p1), (2, .int p2)]) (by decide +kernel) (Nat.le_of_ble_eq_true rfl) rfl ?_
  unfold f_X12_judge
  refine zs_aload_n dX12_judge_0 rfl 0 rfl ?_
  refine zs_iconst (v := (0 : Int32)) dX12_judge_1 ci_0 ?_
  refine zs_putI fl_X12_1 dX12_judge_2 (shm_0 hN) rfl ⟨rfl, rfl⟩ (fun m1 => ?_)
  refine zs_iload_n dX12_judge_5 rfl 2 rfl ?_
  refine zs_i2l dX12_judge_6 ?_
  refine zs_lconst (v := (0 : Int64)) dX12_judge_7 rfl ?_
  refine zs_ldc2 (v := (3 : Int64)) dX12_judge_8 kc_X12_363 ?_
  refine zs_cS_iR (rest := []) (k_X12_within hN _ _ _ _) dX12_judge_11 ls_X12_163 ok_X12_within (Nat.le_of_ble_eq_true rfl) rfl rfl (Nat.le_of_ble_eq_true rfl) (fun r2 => ?_)
  refine zs_if_ne (tgt := 20) dX12_judge_14 (by decide) ?_ ?_
  · refine zs_aload_n dX12_judge_20 rfl 0 rfl ?_
    refine zs_iload_n dX12_judge_21 rfl 1 rfl ?_
    refine zs_cV_iR (rest := []) (k_X12_noTray hN _ _) dX12_judge_22 lv_X12_365 ok_X12_noTray (zz_rcv_o (shm_0 hN) rfl) (Nat.le_of_ble_eq_true rfl) rfl rfl (Nat.le_of_ble_eq_true rfl) (fun r3 => ?_)
    refine zs_istore_n [(3, .int r3), (0, .ref (zz_a G 0)), (1, .int p1), (2, .int p2)] dX12_judge_25 rfl (Nat.le_of_ble_eq_true rfl) rfl ?_
    refine zs_iload_n dX12_judge_26 rfl 0 rfl ?_
    refine zs_if_eq (tgt := 32) dX12_judge_27 (by decide) ?_ ?_
    · refine zs_aload_n dX12_judge_32 rfl 1 rfl ?_
      refine zs_cV_vW (rest := []) (k_X12_stores hN  _) dX12_judge_33 lv_X12_328 ok_X12_stores (zz_rcv_o (shm_0 hN) rfl) (Nat.le_of_ble_eq_true rfl) rfl rfl (Nat.le_of_ble_eq_true rfl) (fun m4 => ?_)
      refine zs_aload_n dX12_judge_36 rfl 1 rfl ?_
      refine zs_iload_n dX12_judge_37 rfl 2 rfl ?_
      refine zs_cV_iW (rest := []) (k_X12_tells hN _ _) dX12_judge_38 lv_X12_368 ok_X12_tells (zz_rcv_o (shm_0 hN) rfl) (Nat.le_of_ble_eq_true rfl) rfl rfl (Nat.le_of_ble_eq_true rfl) (fun r5 m6 => ?_)
      refine zs_istore [(4, .int r5), (3, .int r3), (0, .ref (zz_a G 0)), (1, .int p1), (2, .int p2)] dX12_judge_41 (Nat.le_of_ble_eq_true rfl) rfl ?_
      refine zs_aload_n dX12_judge_43 rfl 2 rfl ?_
      refine zs_cV_iR (rest := []) (k_X12_ratesSum hN  _) dX12_judge_44 lv_X12_371 ok_X12_ratesSum (zz_rcv_o (shm_0 hN) rfl) (Nat.le_of_ble_eq_true rfl) rfl rfl (Nat.le_of_ble_eq_true rfl) (fun r7 => ?_)
      refine zs_istore [(5, .int r7), (4, .int r5), (3, .int r3), (0, .ref (zz_a G 0)), (1, .int p1), (2, .int p2)] dX12_judge_47 (Nat.le_of_ble_eq_true rfl) rfl ?_
      refine zs_aload_n dX12_judge_49 rfl 3 rfl ?_
      refine zs_cV_vW (rest := []) (k_X12_laysCurve hN  _) dX12_judge_50 lv_X12_312 ok_X12_laysCurve (zz_rcv_o (shm_0 hN) rfl) (Nat.le_of_ble_eq_true rfl) rfl rfl (Nat.le_of_ble_eq_true rfl) (fun m8 => ?_)
      refine zs_aload_n dX12_judge_53 rfl 3 rfl ?_
      refine zs_getR fl_X12_57 dX12_judge_54 (shm_0 hN) rfl ?_
      refine zs_aload_n dX12_judge_57 rfl 3 rfl ?_
      refine zs_getI fl_X12_272 dX12_judge_58 (shm_0 hN) rfl ?_
      refine zs_iconst (v := (1 : Int32)) dX12_judge_61 ci_1 ?_
      refine zs_isub dX12_judge_62 ?_
      refine zs_ialdG dX12_judge_63 (shm_14 hN) ?_
      refine zs_sipush (v := (1000 : Int32)) dX12_judge_64 cs_1000 ?_
      refine zs_idiv dX12_judge_67 (by decide) ?_
      refine zs_letI (fun x9 => ?_)
      refine zs_istore [(6, .int x9), (5, .int r7), (4, .int r5), (3, .int r3), (0, .ref (zz_a G 0)), (1, .int p1), (2, .int p2)] dX12_judge_68 (Nat.le_of_ble_eq_true rfl) rfl ?_
      refine zs_aload_n dX12_judge_70 rfl 4 rfl ?_
      refine zs_cV_vW (rest := []) (k_X12_isAgain hN  _) dX12_judge_71 lv_X12_374 ok_X12_isAgain (zz_rcv_o (shm_0 hN) rfl) (Nat.le_of_ble_eq_true rfl) rfl rfl (Nat.le_of_ble_eq_true rfl) (fun m10 => ?_)
      refine zs_iload_n dX12_judge_74 rfl 6 rfl ?_
      refine zs_if_ne (tgt := 94) dX12_judge_75 (by decide) ?_ ?_
      · refine zs_iload_n dX12_judge_94 rfl 6 rfl ?_
        refine zs_iconst (v := (1 : Int32)) dX12_judge_95 ci_1 ?_
        refine zs_icmp_ne (tgt := 106) dX12_judge_96 (by decide) ?_ ?_
        · refine zs_iload_n dX12_judge_106 rfl 6 rfl ?_
          refine zs_iconst (v := (2 : Int32)) dX12_judge_107 ci_2 ?_
          refine zs_icmp_ne (tgt := 116) dX12_judge_108 (by decide) ?_ ?_
          · refine zs_iload dX12_judge_116 0 rfl ?_
            exact zs_iret dX12_judge_118 rfl rfl rfl
          · refine zs_iload dX12_judge_111 1 rfl ?_
            refine zs_goto (tgt := 118) dX12_judge_113 (by decide) ?_
            exact zs_iret dX12_judge_118 rfl rfl rfl
        · refine zs_aload_n dX12_judge_99 rfl 4 rfl ?_
          refine zs_getI fl_X12_353 dX12_judge_100 (shm_0 hN) rfl ?_
          refine zs_goto (tgt := 118) dX12_judge_103 (by decide) ?_
          exact zs_iret dX12_judge_118 rfl rfl rfl
      · refine zs_aload_n dX12_judge_78 rfl 4 rfl ?_
        refine zs_getI fl_X12_353 dX12_judge_79 (shm_0 hN) rfl ?_
        refine zs_if_ne (tgt := 89) dX12_judge_82 (by decide) ?_ ?_
        · refine zs_iload dX12_judge_89 2 rfl ?_
          refine zs_goto (tgt := 118) dX12_judge_91 (by decide) ?_
          exact zs_iret dX12_judge_118 rfl rfl rfl
        · refine zs_iconst (v := (-1 : Int32)) dX12_judge_85 ci_m1 ?_
          refine zs_goto (tgt := 118) dX12_judge_86 (by decide) ?_
          exact zs_iret dX12_judge_118 rfl rfl rfl
    · refine zs_iload_n dX12_judge_30 rfl 0 rfl ?_
      exact zs_iret dX12_judge_31 rfl rfl rfl
  · refine zs_bipush (v := (-2 : Int32)) dX12_judge_17 cb_m2 ?_
    exact zs_iret dX12_judge_19 rfl rfl rfl
/-! X12_perform: PillarDeskModel.perform(I)I -/
theorem dX12_perform_0 : decode cX12_perform 0 = .ok (.aload_n 0, 1) := by decide +kernel
theorem dX12_perform_1 : decode cX12_perform 1 = .ok (.iconst 0, 1) := by decide +kernel
theorem dX12_perform_2 : decode cX12_perform 2 = .ok (.putfield 1, 3) := by decide +kernel
theorem dX12_perform_5 : decode cX12_perform 5 = .ok (.aload_n 0, 1) := by decide +kernel
theorem dX12_perform_6 : decode cX12_perform 6 = .ok (.iload_n 1, 1) := by decide +kernel
theorem dX12_perform_7 : decode cX12_perform 7 = .ok (.invokevirtual 365, 3) := by decide +kernel
theorem dX12_perform_10 : decode cX12_perform 10 = .ok (.istore_n 2, 1) := by decide +kernel
theorem dX12_perform_11 : decode cX12_perform 11 = .ok (.iload_n 2, 1) := by decide +kernel
theorem dX12_perform_12 : decode cX12_perform 12 = .ok (.ifCond .eq 5, 3) := by decide +kernel
theorem dX12_perform_15 : decode cX12_perform 15 = .ok (.iload_n 2, 1) := by decide +kernel
theorem dX12_perform_16 : decode cX12_perform 16 = .ok (.ireturn, 1) := by decide +kernel
theorem dX12_perform_17 : decode cX12_perform 17 = .ok (.aload_n 0, 1) := by decide +kernel
theorem dX12_perform_18 : decode cX12_perform 18 = .ok (.invokevirtual 328, 3) := by decide +kernel
theorem dX12_perform_21 : decode cX12_perform 21 = .ok (.aload_n 0, 1) := by decide +kernel
theorem dX12_perform_22 : decode cX12_perform 22 = .ok (.iload_n 1, 1) := by decide +kernel
theorem dX12_perform_23 : decode cX12_perform 23 = .ok (.invokevirtual 368, 3) := by decide +kernel
theorem dX12_perform_26 : decode cX12_perform 26 = .ok (.istore_n 3, 1) := by decide +kernel
theorem dX12_perform_27 : decode cX12_perform 27 = .ok (.iload_n 3, 1) := by decide +kernel
theorem dX12_perform_28 : decode cX12_perform 28 = .ok (.ifCond .le 7, 3) := by decide +kernel
theorem dX12_perform_31 : decode cX12_perform 31 = .ok (.aload_n 0, 1) := by decide +kernel
theorem dX12_perform_32 : decode cX12_perform 32 = .ok (.invokevirtual 331, 3) := by decide +kernel
theorem dX12_perform_35 : decode cX12_perform 35 = .ok (.iload_n 3, 1) := by decide +kernel
theorem dX12_perform_36 : decode cX12_perform 36 = .ok (.ireturn, 1) := by decide +kernel
def f_X12_perform  (p1 : Int32) (m : zz_Mem) : Option (Int32 × zz_Mem) :=
  zz_letM (zz_setI m 0 0 (0 : Int32)) fun m1 =>
  zz_bndR (f_X12_noTray m1 p1) fun r2 =>
  if r2 = 0 then (
  zz_bndR (f_X12_stores m1) fun m3 =>
  zz_bnd (f_X12_tells p1 m3) fun r4 m5 =>
  if r4 ≤ 0 then (
  some (r4, m5))
  else (
  zz_bndR (f_X12_notes m5) fun m6 =>
  some (r4, m6)))
  else (
  some (r2, m1))
theorem k_X12_perform {l : Launch} {G : zz_G} (hN : 26 ≤ zz_N G) : ∀ (p1 : Int32) (m : zz_Mem), zz_Con zz_shM l G mX12_perform 5 [.ref (zz_a G 0), .int p1] zz_vI zz_m2 (f_X12_perform p1 m) m := by
  intro p1 m
  refine zz_con (lv := [(0, .ref (zz_a G 0)), (1, .int p1)]) (by decide +kernel) (Nat.le_of_ble_eq_true rfl) rfl ?_
  unfold f_X12_perform
  refine zs_aload_n dX12_perform_0 rfl 0 rfl ?_
  refine zs_iconst (v := (0 : Int32)) dX12_perform_1 ci_0 ?_
  refine zs_putI fl_X12_1 dX12_perform_2 (shm_0 hN) rfl ⟨rfl, rfl⟩ (fun m1 => ?_)
  refine zs_aload_n dX12_perform_5 rfl 0 rfl ?_
  refine zs_iload_n dX12_perform_6 rfl 1 rfl ?_
  refine zs_cV_iR (rest := []) (k_X12_noTray hN _ _) dX12_perform_7 lv_X12_365 ok_X12_noTray (zz_rcv_o (shm_0 hN) rfl) (Nat.le_of_ble_eq_true rfl) rfl rfl (Nat.le_of_ble_eq_true rfl) (fun r2 => ?_)
  refine zs_istore_n [(2, .int r2), (0, .ref (zz_a G 0)), (1, .int p1)] dX12_perform_10 rfl (Nat.le_of_ble_eq_true rfl) rfl ?_
  refine zs_iload_n dX12_perform_11 rfl 0 rfl ?_
  refine zs_if_eq (tgt := 17) dX12_perform_12 (by decide) ?_ ?_
  · refine zs_aload_n dX12_perform_17 rfl 1 rfl ?_
    refine zs_cV_vW (rest := []) (k_X12_stores hN  _) dX12_perform_18 lv_X12_328 ok_X12_stores (zz_rcv_o (shm_0 hN) rfl) (Nat.le_of_ble_eq_true rfl) rfl rfl (Nat.le_of_ble_eq_true rfl) (fun m3 => ?_)
    refine zs_aload_n dX12_perform_21 rfl 1 rfl ?_
    refine zs_iload_n dX12_perform_22 rfl 2 rfl ?_
    refine zs_cV_iW (rest := []) (k_X12_tells hN _ _) dX12_perform_23 lv_X12_368 ok_X12_tells (zz_rcv_o (shm_0 hN) rfl) (Nat.le_of_ble_eq_true rfl) rfl rfl (Nat.le_of_ble_eq_true rfl) (fun r4 m5 => ?_)
    refine zs_istore_n [(3, .int r4), (2, .int r2), (0, .ref (zz_a G 0)), (1, .int p1)] dX12_perform_26 rfl (Nat.le_of_ble_eq_true rfl) rfl ?_
    refine zs_iload_n dX12_perform_27 rfl 0 rfl ?_
    refine zs_if_le (tgt := 35) dX12_perform_28 (by decide) ?_ ?_
    · refine zs_iload_n dX12_perform_35 rfl 0 rfl ?_
      exact zs_iret dX12_perform_36 rfl rfl rfl
    · refine zs_aload_n dX12_perform_31 rfl 2 rfl ?_
      refine zs_cV_vW (rest := []) (k_X12_notes hN  _) dX12_perform_32 lv_X12_331 ok_X12_notes (zz_rcv_o (shm_0 hN) rfl) (Nat.le_of_ble_eq_true rfl) rfl rfl (Nat.le_of_ble_eq_true rfl) (fun m6 => ?_)
      refine zs_iload_n dX12_perform_35 rfl 0 rfl ?_
      exact zs_iret dX12_perform_36 rfl rfl rfl
  · refine zs_iload_n dX12_perform_15 rfl 0 rfl ?_
    exact zs_iret dX12_perform_16 rfl rfl rfl
/-! X12_draw: PillarDeskModel.draw(I)I -/
theorem dX12_draw_0 : decode cX12_draw 0 = .ok (.aload_n 0, 1) := by decide +kernel
theorem dX12_draw_1 : decode cX12_draw 1 = .ok (.ldc_w 377, 3) := by decide +kernel
theorem dX12_draw_4 : decode cX12_draw 4 = .ok (.aload_n 0, 1) := by decide +kernel
theorem dX12_draw_5 : decode cX12_draw 5 = .ok (.getfield 378, 3) := by decide +kernel
theorem dX12_draw_8 : decode cX12_draw 8 = .ok (.imul, 1) := by decide +kernel
theorem dX12_draw_9 : decode cX12_draw 9 = .ok (.sipush 12345, 3) := by decide +kernel
theorem dX12_draw_12 : decode cX12_draw 12 = .ok (.iadd, 1) := by decide +kernel
theorem dX12_draw_13 : decode cX12_draw 13 = .ok (.putfield 378, 3) := by decide +kernel
theorem dX12_draw_16 : decode cX12_draw 16 = .ok (.aload_n 0, 1) := by decide +kernel
theorem dX12_draw_17 : decode cX12_draw 17 = .ok (.getfield 378, 3) := by decide +kernel
theorem dX12_draw_20 : decode cX12_draw 20 = .ok (.bipush 16, 2) := by decide +kernel
theorem dX12_draw_22 : decode cX12_draw 22 = .ok (.iushr, 1) := by decide +kernel
theorem dX12_draw_23 : decode cX12_draw 23 = .ok (.iload_n 1, 1) := by decide +kernel
theorem dX12_draw_24 : decode cX12_draw 24 = .ok (.irem, 1) := by decide +kernel
theorem dX12_draw_25 : decode cX12_draw 25 = .ok (.ireturn, 1) := by decide +kernel
def f_X12_draw  (p1 : Int32) (m : zz_Mem) : Option (Int32 × zz_Mem) :=
  zz_letM (zz_setI m 0 31 (((1103515245 : Int32) * (m.1 0 31)) + (12345 : Int32))) fun m1 =>
  zz_nz p1 <|
  some ((((m1.1 0 31).toUInt32 >>> ((16 : Int32).toUInt32 &&& Int32.toUInt32 31)).toInt32) - (((m1.1 0 31).toUInt32 >>> ((16 : Int32).toUInt32 &&& Int32.toUInt32 31)).toInt32) / p1 * p1, m1)
theorem k_X12_draw {l : Launch} {G : zz_G} (hN : 26 ≤ zz_N G) : ∀ (p1 : Int32) (m : zz_Mem), zz_Con zz_shM l G mX12_draw 0 [.ref (zz_a G 0), .int p1] zz_vI zz_m2 (f_X12_draw p1 m) m := by
  intro p1 m
  refine zz_con (lv := [(0, .ref (zz_a G 0)), (1, .int p1)]) (by decide +kernel) (Nat.le_of_ble_eq_true rfl) rfl ?_
  unfold f_X12_draw
  refine zs_aload_n dX12_draw_0 rfl 0 rfl ?_
  refine zs_ldcw (v := (1103515245 : Int32)) dX12_draw_1 kc_X12_377 ?_
  refine zs_aload_n dX12_draw_4 rfl 0 rfl ?_
  refine zs_getI fl_X12_378 dX12_draw_5 (shm_0 hN) rfl ?_
  refine zs_imul dX12_draw_8 ?_
  refine zs_sipush (v := (12345 : Int32)) dX12_draw_9 cs_12345 ?_
  refine zs_iadd dX12_draw_12 ?_
  refine zs_putI fl_X12_378 dX12_draw_13 (shm_0 hN) rfl ⟨rfl, rfl⟩ (fun m1 => ?_)
  refine zs_aload_n dX12_draw_16 rfl 0 rfl ?_
  refine zs_getI fl_X12_378 dX12_draw_17 (shm_0 hN) rfl ?_
  refine zs_bipush (v := (16 : Int32)) dX12_draw_20 cb_16 ?_
  refine zs_iushr dX12_draw_22 ?_
  refine zs_iload_n dX12_draw_23 rfl 1 rfl ?_
  refine zs_iremG dX12_draw_24 ?_
  exact zs_iret dX12_draw_25 rfl rfl rfl
/-! X12_drawn: PillarDeskModel.drawn()I -/
theorem dX12_drawn_0 : decode cX12_drawn 0 = .ok (.aload_n 0, 1) := by decide +kernel
theorem dX12_drawn_1 : decode cX12_drawn 1 = .ok (.iconst 4, 1) := by decide +kernel
theorem dX12_drawn_2 : decode cX12_drawn 2 = .ok (.invokevirtual 381, 3) := by decide +kernel
theorem dX12_drawn_5 : decode cX12_drawn 5 = .ok (.istore_n 1, 1) := by decide +kernel
theorem dX12_drawn_6 : decode cX12_drawn 6 = .ok (.iload_n 1, 1) := by decide +kernel
theorem dX12_drawn_7 : decode cX12_drawn 7 = .ok (.ifCond .ne 13, 3) := by decide +kernel
theorem dX12_drawn_10 : decode cX12_drawn 10 = .ok (.bipush 10, 2) := by decide +kernel
theorem dX12_drawn_12 : decode cX12_drawn 12 = .ok (.aload_n 0, 1) := by decide +kernel
theorem dX12_drawn_13 : decode cX12_drawn 13 = .ok (.bipush 10, 2) := by decide +kernel
theorem dX12_drawn_15 : decode cX12_drawn 15 = .ok (.invokevirtual 381, 3) := by decide +kernel
theorem dX12_drawn_18 : decode cX12_drawn 18 = .ok (.iadd, 1) := by decide +kernel
theorem dX12_drawn_19 : decode cX12_drawn 19 = .ok (.ireturn, 1) := by decide +kernel
theorem dX12_drawn_20 : decode cX12_drawn 20 = .ok (.iload_n 1, 1) := by decide +kernel
theorem dX12_drawn_21 : decode cX12_drawn 21 = .ok (.iconst 3, 1) := by decide +kernel
theorem dX12_drawn_22 : decode cX12_drawn 22 = .ok (.if_icmp .ge 12, 3) := by decide +kernel
theorem dX12_drawn_25 : decode cX12_drawn 25 = .ok (.aload_n 0, 1) := by decide +kernel
theorem dX12_drawn_26 : decode cX12_drawn 26 = .ok (.bipush 8, 2) := by decide +kernel
theorem dX12_drawn_28 : decode cX12_drawn 28 = .ok (.invokevirtual 381, 3) := by decide +kernel
theorem dX12_drawn_31 : decode cX12_drawn 31 = .ok (.goto 9, 3) := by decide +kernel
theorem dX12_drawn_34 : decode cX12_drawn 34 = .ok (.aload_n 0, 1) := by decide +kernel
theorem dX12_drawn_35 : decode cX12_drawn 35 = .ok (.bipush 10, 2) := by decide +kernel
theorem dX12_drawn_37 : decode cX12_drawn 37 = .ok (.invokevirtual 381, 3) := by decide +kernel
theorem dX12_drawn_40 : decode cX12_drawn 40 = .ok (.istore_n 2, 1) := by decide +kernel
theorem dX12_drawn_41 : decode cX12_drawn 41 = .ok (.iload_n 1, 1) := by decide +kernel
theorem dX12_drawn_42 : decode cX12_drawn 42 = .ok (.iconst 3, 1) := by decide +kernel
theorem dX12_drawn_43 : decode cX12_drawn 43 = .ok (.if_icmp .ge 23, 3) := by decide +kernel
theorem dX12_drawn_46 : decode cX12_drawn 46 = .ok (.sipush 1000, 3) := by decide +kernel
theorem dX12_drawn_49 : decode cX12_drawn 49 = .ok (.sipush 1000, 3) := by decide +kernel
theorem dX12_drawn_52 : decode cX12_drawn 52 = .ok (.iload_n 2, 1) := by decide +kernel
theorem dX12_drawn_53 : decode cX12_drawn 53 = .ok (.imul, 1) := by decide +kernel
theorem dX12_drawn_54 : decode cX12_drawn 54 = .ok (.iadd, 1) := by decide +kernel
theorem dX12_drawn_55 : decode cX12_drawn 55 = .ok (.aload_n 0, 1) := by decide +kernel
theorem dX12_drawn_56 : decode cX12_drawn 56 = .ok (.sipush 199, 3) := by decide +kernel
theorem dX12_drawn_59 : decode cX12_drawn 59 = .ok (.invokevirtual 381, 3) := by decide +kernel
theorem dX12_drawn_62 : decode cX12_drawn 62 = .ok (.iadd, 1) := by decide +kernel
theorem dX12_drawn_63 : decode cX12_drawn 63 = .ok (.goto 20, 3) := by decide +kernel
theorem dX12_drawn_66 : decode cX12_drawn 66 = .ok (.sipush 10000, 3) := by decide +kernel
theorem dX12_drawn_69 : decode cX12_drawn 69 = .ok (.sipush 2000, 3) := by decide +kernel
theorem dX12_drawn_72 : decode cX12_drawn 72 = .ok (.iload_n 2, 1) := by decide +kernel
theorem dX12_drawn_73 : decode cX12_drawn 73 = .ok (.imul, 1) := by decide +kernel
theorem dX12_drawn_74 : decode cX12_drawn 74 = .ok (.iadd, 1) := by decide +kernel
theorem dX12_drawn_75 : decode cX12_drawn 75 = .ok (.aload_n 0, 1) := by decide +kernel
theorem dX12_drawn_76 : decode cX12_drawn 76 = .ok (.sipush 1999, 3) := by decide +kernel
theorem dX12_drawn_79 : decode cX12_drawn 79 = .ok (.invokevirtual 381, 3) := by decide +kernel
theorem dX12_drawn_82 : decode cX12_drawn 82 = .ok (.iadd, 1) := by decide +kernel
theorem dX12_drawn_83 : decode cX12_drawn 83 = .ok (.ireturn, 1) := by decide +kernel
def f_X12_drawn_40   (v1 : Int32) (s0 : Int32) (m : zz_Mem) : Option (Int32 × zz_Mem) :=
  if (3 : Int32) ≤ v1 then (
  zz_bnd (f_X12_draw (1999 : Int32) m) fun r1 m2 =>
  some (((10000 : Int32) + ((2000 : Int32) * s0)) + r1, m2))
  else (
  zz_bnd (f_X12_draw (199 : Int32) m) fun r3 m4 =>
  some (((1000 : Int32) + ((1000 : Int32) * s0)) + r3, m4))
theorem t_X12_drawn_40 {l : Launch} {G : zz_G} (hN : 26 ≤ zz_N G)  : ∀ (v1 : Int32) (s0 : Int32) (m : zz_Mem), zz_Sim zz_shM l G mX12_drawn 1 zz_vI zz_m2 (f_X12_drawn_40 v1 s0 m) 40 [(0, .ref (zz_a G 0)), (1, .int v1)] [.int s0] m := by
  intro v1 s0 m
  unfold f_X12_drawn_40
  refine zs_istore_n [(2, .int s0), (0, .ref (zz_a G 0)), (1, .int v1)] dX12_drawn_40 rfl (Nat.le_of_ble_eq_true rfl) rfl ?_
  refine zs_iload_n dX12_drawn_41 rfl 2 rfl ?_
  refine zs_iconst (v := (3 : Int32)) dX12_drawn_42 ci_3 ?_
  refine zs_icmp_ge (tgt := 66) dX12_drawn_43 (by decide) ?_ ?_
  · refine zs_sipush (v := (10000 : Int32)) dX12_drawn_66 cs_10000 ?_
    refine zs_sipush (v := (2000 : Int32)) dX12_drawn_69 cs_2000 ?_
    refine zs_iload_n dX12_drawn_72 rfl 0 rfl ?_
    refine zs_imul dX12_drawn_73 ?_
    refine zs_iadd dX12_drawn_74 ?_
    refine zs_aload_n dX12_drawn_75 rfl 1 rfl ?_
    refine zs_sipush (v := (1999 : Int32)) dX12_drawn_76 cs_1999 ?_
    refine zs_cV_iW (rest := [.int ((10000 : Int32) + ((2000 : Int32) * s0))]) (k_X12_draw hN _ _) dX12_drawn_79 lv_X12_381 ok_X12_draw (zz_rcv_o (shm_0 hN) rfl) (Nat.le_of_ble_eq_true rfl) rfl rfl (Nat.le_of_ble_eq_true rfl) (fun r1 m2 => ?_)
    refine zs_iadd dX12_drawn_82 ?_
    exact zs_iret dX12_drawn_83 rfl rfl rfl
  · refine zs_sipush (v := (1000 : Int32)) dX12_drawn_46 cs_1000 ?_
    refine zs_sipush (v := (1000 : Int32)) dX12_drawn_49 cs_1000 ?_
    refine zs_iload_n dX12_drawn_52 rfl 0 rfl ?_
    refine zs_imul dX12_drawn_53 ?_
    refine zs_iadd dX12_drawn_54 ?_
    refine zs_aload_n dX12_drawn_55 rfl 1 rfl ?_
    refine zs_sipush (v := (199 : Int32)) dX12_drawn_56 cs_199 ?_
    refine zs_cV_iW (rest := [.int ((1000 : Int32) + ((1000 : Int32) * s0))]) (k_X12_draw hN _ _) dX12_drawn_59 lv_X12_381 ok_X12_draw (zz_rcv_o (shm_0 hN) rfl) (Nat.le_of_ble_eq_true rfl) rfl rfl (Nat.le_of_ble_eq_true rfl) (fun r3 m4 => ?_)
    refine zs_iadd dX12_drawn_62 ?_
    refine zs_goto (tgt := 83) dX12_drawn_63 (by decide) ?_
    exact zs_iret dX12_drawn_83 rfl rfl rfl
def f_X12_drawn   (m : zz_Mem) : Option (Int32 × zz_Mem) :=
  zz_bnd (f_X12_draw (4 : Int32) m) fun r1 m2 =>
  if r1 = 0 then (
  zz_bnd (f_X12_draw (10 : Int32) m2) fun r7 m8 =>
  some ((10 : Int32) + r7, m8))
  else (
  if (3 : Int32) ≤ r1 then (
  zz_bnd (f_X12_draw (10 : Int32) m2) fun r3 m4 =>
  f_X12_drawn_40 r1 r3 m4)
  else (
  zz_bnd (f_X12_draw (8 : Int32) m2) fun r5 m6 =>
  f_X12_drawn_40 r1 r5 m6))
theorem k_X12_drawn {l : Launch} {G : zz_G} (hN : 26 ≤ zz_N G) : ∀ (m : zz_Mem), zz_Con zz_shM l G mX12_drawn 1 [.ref (zz_a G 0)] zz_vI zz_m2 (f_X12_drawn m) m := by
  intro m
  refine zz_con (lv := [(0, .ref (zz_a G 0))]) (by decide +kernel) (Nat.le_of_ble_eq_true rfl) rfl ?_
  unfold f_X12_drawn
  refine zs_aload_n dX12_drawn_0 rfl 0 rfl ?_
  refine zs_iconst (v := (4 : Int32)) dX12_drawn_1 ci_4 ?_
  refine zs_cV_iW (rest := []) (k_X12_draw hN _ _) dX12_drawn_2 lv_X12_381 ok_X12_draw (zz_rcv_o (shm_0 hN) rfl) (Nat.le_of_ble_eq_true rfl) rfl rfl (Nat.le_of_ble_eq_true rfl) (fun r1 m2 => ?_)
  refine zs_istore_n [(1, .int r1), (0, .ref (zz_a G 0))] dX12_drawn_5 rfl (Nat.le_of_ble_eq_true rfl) rfl ?_
  refine zs_iload_n dX12_drawn_6 rfl 0 rfl ?_
  refine zs_if_ne (tgt := 20) dX12_drawn_7 (by decide) ?_ ?_
  · refine zs_iload_n dX12_drawn_20 rfl 0 rfl ?_
    refine zs_iconst (v := (3 : Int32)) dX12_drawn_21 ci_3 ?_
    refine zs_icmp_ge (tgt := 34) dX12_drawn_22 (by decide) ?_ ?_
    · refine zs_aload_n dX12_drawn_34 rfl 1 rfl ?_
      refine zs_bipush (v := (10 : Int32)) dX12_drawn_35 cb_10 ?_
      refine zs_cV_iW (rest := []) (k_X12_draw hN _ _) dX12_drawn_37 lv_X12_381 ok_X12_draw (zz_rcv_o (shm_0 hN) rfl) (Nat.le_of_ble_eq_true rfl) rfl rfl (Nat.le_of_ble_eq_true rfl) (fun r3 m4 => ?_)
      refine zs_sub [1, 0] rfl ?_
      exact t_X12_drawn_40 hN _ _ _
    · refine zs_aload_n dX12_drawn_25 rfl 1 rfl ?_
      refine zs_bipush (v := (8 : Int32)) dX12_drawn_26 cb_8 ?_
      refine zs_cV_iW (rest := []) (k_X12_draw hN _ _) dX12_drawn_28 lv_X12_381 ok_X12_draw (zz_rcv_o (shm_0 hN) rfl) (Nat.le_of_ble_eq_true rfl) rfl rfl (Nat.le_of_ble_eq_true rfl) (fun r5 m6 => ?_)
      refine zs_goto (tgt := 40) dX12_drawn_31 (by decide) ?_
      refine zs_sub [1, 0] rfl ?_
      exact t_X12_drawn_40 hN _ _ _
  · refine zs_bipush (v := (10 : Int32)) dX12_drawn_10 cb_10 ?_
    refine zs_aload_n dX12_drawn_12 rfl 1 rfl ?_
    refine zs_bipush (v := (10 : Int32)) dX12_drawn_13 cb_10 ?_
    refine zs_cV_iW (rest := [.int (10 : Int32)]) (k_X12_draw hN _ _) dX12_drawn_15 lv_X12_381 ok_X12_draw (zz_rcv_o (shm_0 hN) rfl) (Nat.le_of_ble_eq_true rfl) rfl rfl (Nat.le_of_ble_eq_true rfl) (fun r7 m8 => ?_)
    refine zs_iadd dX12_drawn_18 ?_
    exact zs_iret dX12_drawn_19 rfl rfl rfl
/-! X12_week: PillarDeskModel.week(II)I -/
theorem dX12_week_0 : decode cX12_week 0 = .ok (.aload_n 0, 1) := by decide +kernel
theorem dX12_week_1 : decode cX12_week 1 = .ok (.iconst 0, 1) := by decide +kernel
theorem dX12_week_2 : decode cX12_week 2 = .ok (.putfield 1, 3) := by decide +kernel
theorem dX12_week_5 : decode cX12_week 5 = .ok (.iload_n 2, 1) := by decide +kernel
theorem dX12_week_6 : decode cX12_week 6 = .ok (.i2l, 1) := by decide +kernel
theorem dX12_week_7 : decode cX12_week 7 = .ok (.lconst 1, 1) := by decide +kernel
theorem dX12_week_8 : decode cX12_week 8 = .ok (.ldc2_w 384, 3) := by decide +kernel
theorem dX12_week_11 : decode cX12_week 11 = .ok (.invokestatic 163, 3) := by decide +kernel
theorem dX12_week_14 : decode cX12_week 14 = .ok (.ifCond .ne 6, 3) := by decide +kernel
theorem dX12_week_17 : decode cX12_week 17 = .ok (.bipush (-3), 2) := by decide +kernel
theorem dX12_week_19 : decode cX12_week 19 = .ok (.ireturn, 1) := by decide +kernel
theorem dX12_week_20 : decode cX12_week 20 = .ok (.aload_n 0, 1) := by decide +kernel
theorem dX12_week_21 : decode cX12_week 21 = .ok (.invokevirtual 328, 3) := by decide +kernel
theorem dX12_week_24 : decode cX12_week 24 = .ok (.aload_n 0, 1) := by decide +kernel
theorem dX12_week_25 : decode cX12_week 25 = .ok (.iload_n 1, 1) := by decide +kernel
theorem dX12_week_26 : decode cX12_week 26 = .ok (.putfield 378, 3) := by decide +kernel
theorem dX12_week_29 : decode cX12_week 29 = .ok (.iconst 0, 1) := by decide +kernel
theorem dX12_week_30 : decode cX12_week 30 = .ok (.istore_n 3, 1) := by decide +kernel
theorem dX12_week_31 : decode cX12_week 31 = .ok (.iconst 0, 1) := by decide +kernel
theorem dX12_week_32 : decode cX12_week 32 = .ok (.istore 4, 2) := by decide +kernel
theorem dX12_week_34 : decode cX12_week 34 = .ok (.iload 4, 2) := by decide +kernel
theorem dX12_week_36 : decode cX12_week 36 = .ok (.iload_n 2, 1) := by decide +kernel
theorem dX12_week_37 : decode cX12_week 37 = .ok (.if_icmp .ge 37, 3) := by decide +kernel
theorem dX12_week_40 : decode cX12_week 40 = .ok (.aload_n 0, 1) := by decide +kernel
theorem dX12_week_41 : decode cX12_week 41 = .ok (.invokevirtual 386, 3) := by decide +kernel
theorem dX12_week_44 : decode cX12_week 44 = .ok (.istore 5, 2) := by decide +kernel
theorem dX12_week_46 : decode cX12_week 46 = .ok (.aload_n 0, 1) := by decide +kernel
theorem dX12_week_47 : decode cX12_week 47 = .ok (.iload 5, 2) := by decide +kernel
theorem dX12_week_49 : decode cX12_week 49 = .ok (.i2l, 1) := by decide +kernel
theorem dX12_week_50 : decode cX12_week 50 = .ok (.invokevirtual 356, 3) := by decide +kernel
theorem dX12_week_53 : decode cX12_week 53 = .ok (.ifCond .eq 6, 3) := by decide +kernel
theorem dX12_week_56 : decode cX12_week 56 = .ok (.goto 12, 3) := by decide +kernel
theorem dX12_week_59 : decode cX12_week 59 = .ok (.aload_n 0, 1) := by decide +kernel
theorem dX12_week_60 : decode cX12_week 60 = .ok (.iload 5, 2) := by decide +kernel
theorem dX12_week_62 : decode cX12_week 62 = .ok (.invokevirtual 360, 3) := by decide +kernel
theorem dX12_week_65 : decode cX12_week 65 = .ok (.iinc 3 1, 3) := by decide +kernel
theorem dX12_week_68 : decode cX12_week 68 = .ok (.iinc 4 1, 3) := by decide +kernel
theorem dX12_week_71 : decode cX12_week 71 = .ok (.goto (-37), 3) := by decide +kernel
theorem dX12_week_74 : decode cX12_week 74 = .ok (.iload_n 3, 1) := by decide +kernel
theorem dX12_week_75 : decode cX12_week 75 = .ok (.ifCond .le 7, 3) := by decide +kernel
theorem dX12_week_78 : decode cX12_week 78 = .ok (.aload_n 0, 1) := by decide +kernel
theorem dX12_week_79 : decode cX12_week 79 = .ok (.invokevirtual 331, 3) := by decide +kernel
theorem dX12_week_82 : decode cX12_week 82 = .ok (.iload_n 3, 1) := by decide +kernel
theorem dX12_week_83 : decode cX12_week 83 = .ok (.ireturn, 1) := by decide +kernel
def f_X12_week_74   (v3 : Int32) (m : zz_Mem) : Option (Int32 × zz_Mem) :=
  if v3 ≤ 0 then (
  some (v3, m))
  else (
  zz_bndR (f_X12_notes m) fun m1 =>
  some (v3, m1))
theorem t_X12_week_74 {l : Launch} {G : zz_G} (hN : 26 ≤ zz_N G)  : ∀ (v3 : Int32) (m : zz_Mem), zz_Sim zz_shM l G mX12_week 4 zz_vI zz_m2 (f_X12_week_74 v3 m) 74 [(0, .ref (zz_a G 0)), (3, .int v3)] [] m := by
  intro v3 m
  unfold f_X12_week_74
  refine zs_iload_n dX12_week_74 rfl 1 rfl ?_
  refine zs_if_le (tgt := 82) dX12_week_75 (by decide) ?_ ?_
  · refine zs_iload_n dX12_week_82 rfl 1 rfl ?_
    exact zs_iret dX12_week_83 rfl rfl rfl
  · refine zs_aload_n dX12_week_78 rfl 0 rfl ?_
    refine zs_cV_vW (rest := []) (k_X12_notes hN  _) dX12_week_79 lv_X12_331 ok_X12_notes (zz_rcv_o (shm_0 hN) rfl) (Nat.le_of_ble_eq_true rfl) rfl rfl (Nat.le_of_ble_eq_true rfl) (fun m1 => ?_)
    refine zs_iload_n dX12_week_82 rfl 1 rfl ?_
    exact zs_iret dX12_week_83 rfl rfl rfl
def f_X12_week_34   : Nat → Int32 → Int32 → Int32 → zz_Mem → Option (Int32 × zz_Mem)
  | 0, _, _, _, _ => none
  | n + 1, v2, v3, v4, m =>
  if v2 ≤ v4 then (
  f_X12_week_74 v3 m)
  else (
  zz_bnd (f_X12_drawn m) fun r1 m2 =>
  zz_bndR (f_X12_whyNot m2 r1.toInt64) fun r3 =>
  if r3 = 0 then (
  zz_bndR (f_X12_does r1 m2) fun m4 =>
  zz_letI (v3 + (1 : Int32)) fun x5 =>
  zz_letI (v4 + (1 : Int32)) fun x6 =>
  f_X12_week_34 n v2 x5 x6 m4)
  else (
  zz_letI (v4 + (1 : Int32)) fun x7 =>
  f_X12_week_34 n v2 v3 x7 m2))
theorem t_X12_week_34 {l : Launch} {G : zz_G} (hN : 26 ≤ zz_N G)  : ∀ (n : Nat) (v2 : Int32) (v3 : Int32) (v4 : Int32) (m : zz_Mem), zz_Sim zz_shM l G mX12_week 4 zz_vI zz_m2 (f_X12_week_34 n v2 v3 v4 m) 34 [(0, .ref (zz_a G 0)), (2, .int v2), (3, .int v3), (4, .int v4)] [] m := by
  intro n
  induction n with
  | zero => intro _ _ _ _; exact zs_none
  | succ n ih =>
    intro v2 v3 v4 m
    rw [f_X12_week_34]
    refine zs_iload dX12_week_34 3 rfl ?_
    refine zs_iload_n dX12_week_36 rfl 1 rfl ?_
    refine zs_icmp_ge (tgt := 74) dX12_week_37 (by decide) ?_ ?_
    · refine zs_sub [0, 2] rfl ?_
      exact t_X12_week_74 hN _ _
    · refine zs_aload_n dX12_week_40 rfl 0 rfl ?_
      refine zs_cV_iW (rest := []) (k_X12_drawn hN  _) dX12_week_41 lv_X12_386 ok_X12_drawn (zz_rcv_o (shm_0 hN) rfl) (Nat.le_of_ble_eq_true rfl) rfl rfl (Nat.le_of_ble_eq_true rfl) (fun r1 m2 => ?_)
      refine zs_istore [(5, .int r1), (0, .ref (zz_a G 0)), (2, .int v2), (3, .int v3), (4, .int v4)] dX12_week_44 (Nat.le_of_ble_eq_true rfl) rfl ?_
      refine zs_aload_n dX12_week_46 rfl 1 rfl ?_
      refine zs_iload dX12_week_47 0 rfl ?_
      refine zs_i2l dX12_week_49 ?_
      refine zs_cV_iR (rest := []) (k_X12_whyNot hN _ _) dX12_week_50 lv_X12_356 ok_X12_whyNot (zz_rcv_o (shm_0 hN) rfl) (Nat.le_of_ble_eq_true rfl) rfl rfl (Nat.le_of_ble_eq_true rfl) (fun r3 => ?_)
      refine zs_if_eq (tgt := 59) dX12_week_53 (by decide) ?_ ?_
      · refine zs_aload_n dX12_week_59 rfl 1 rfl ?_
        refine zs_iload dX12_week_60 0 rfl ?_
        refine zs_cV_vW (rest := []) (k_X12_does hN _ _) dX12_week_62 lv_X12_360 ok_X12_does (zz_rcv_o (shm_0 hN) rfl) (Nat.le_of_ble_eq_true rfl) rfl rfl (Nat.le_of_ble_eq_true rfl) (fun m4 => ?_)
        refine zs_iinc (fun y => [(3, .int y), (5, .int r1), (0, .ref (zz_a G 0)), (2, .int v2), (4, .int v4)]) dX12_week_65 3 rfl ci_1 (Nat.le_of_ble_eq_true rfl) (fun _ => rfl) (fun x5 => ?_)
        refine zs_iinc (fun y => [(4, .int y), (3, .int x5), (5, .int r1), (0, .ref (zz_a G 0)), (2, .int v2)]) dX12_week_68 4 rfl ci_1 (Nat.le_of_ble_eq_true rfl) (fun _ => rfl) (fun x6 => ?_)
        refine zs_goto (tgt := 34) dX12_week_71 (by decide) ?_
        refine zs_sub [3, 4, 1, 0] rfl ?_
        exact ih _ _ _ _
      · refine zs_goto (tgt := 68) dX12_week_56 (by decide) ?_
        refine zs_iinc (fun y => [(4, .int y), (5, .int r1), (0, .ref (zz_a G 0)), (2, .int v2), (3, .int v3)]) dX12_week_68 4 rfl ci_1 (Nat.le_of_ble_eq_true rfl) (fun _ => rfl) (fun x7 => ?_)
        refine zs_goto (tgt := 34) dX12_week_71 (by decide) ?_
        refine zs_sub [2, 3, 4, 0] rfl ?_
        exact ih _ _ _ _
def f_X12_week  (p1 : Int32) (p2 : Int32) (m : zz_Mem) : Option (Int32 × zz_Mem) :=
  zz_letM (zz_setI m 0 0 (0 : Int32)) fun m1 =>
  zz_bndR (f_X12_within p2.toInt64 (1 : Int64) (40 : Int64)) fun r2 =>
  if r2 = 0 then (
  some ((-3 : Int32), m1))
  else (
  zz_bndR (f_X12_stores m1) fun m3 =>
  zz_letM (zz_setI m3 0 31 p1) fun m4 =>
  f_X12_week_34 zz_fuel p2 (0 : Int32) (0 : Int32) m4)
theorem k_X12_week {l : Launch} {G : zz_G} (hN : 26 ≤ zz_N G) : ∀ (p1 : Int32) (p2 : Int32) (m : zz_Mem), zz_Con zz_shM l G mX12_week 4 [.ref (zz_a G 0), .int p1, .int p2] zz_vI zz_m2 (f_X12_week p1 p2 m) m := by
  intro p1 p2 m
  refine zz_con (lv := [(0, .ref (zz_a G 0)), (1, .int p1), (2, .int p2)]) (by decide +kernel) (Nat.le_of_ble_eq_true rfl) rfl ?_
  unfold f_X12_week
  refine zs_aload_n dX12_week_0 rfl 0 rfl ?_
  refine zs_iconst (v := (0 : Int32)) dX12_week_1 ci_0 ?_
  refine zs_putI fl_X12_1 dX12_week_2 (shm_0 hN) rfl ⟨rfl, rfl⟩ (fun m1 => ?_)
  refine zs_iload_n dX12_week_5 rfl 2 rfl ?_
  refine zs_i2l dX12_week_6 ?_
  refine zs_lconst (v := (1 : Int64)) dX12_week_7 rfl ?_
  refine zs_ldc2 (v := (40 : Int64)) dX12_week_8 kc_X12_384 ?_
  refine zs_cS_iR (rest := []) (k_X12_within hN _ _ _ _) dX12_week_11 ls_X12_163 ok_X12_within (Nat.le_of_ble_eq_true rfl) rfl rfl (Nat.le_of_ble_eq_true rfl) (fun r2 => ?_)
  refine zs_if_ne (tgt := 20) dX12_week_14 (by decide) ?_ ?_
  · refine zs_aload_n dX12_week_20 rfl 0 rfl ?_
    refine zs_cV_vW (rest := []) (k_X12_stores hN  _) dX12_week_21 lv_X12_328 ok_X12_stores (zz_rcv_o (shm_0 hN) rfl) (Nat.le_of_ble_eq_true rfl) rfl rfl (Nat.le_of_ble_eq_true rfl) (fun m3 => ?_)
    refine zs_aload_n dX12_week_24 rfl 0 rfl ?_
    refine zs_iload_n dX12_week_25 rfl 1 rfl ?_
    refine zs_putI fl_X12_378 dX12_week_26 (shm_0 hN) rfl ⟨rfl, rfl⟩ (fun m4 => ?_)
    refine zs_iconst (v := (0 : Int32)) dX12_week_29 ci_0 ?_
    refine zs_istore_n [(3, .int (0 : Int32)), (0, .ref (zz_a G 0)), (1, .int p1), (2, .int p2)] dX12_week_30 rfl (Nat.le_of_ble_eq_true rfl) rfl ?_
    refine zs_iconst (v := (0 : Int32)) dX12_week_31 ci_0 ?_
    refine zs_istore [(4, .int (0 : Int32)), (3, .int (0 : Int32)), (0, .ref (zz_a G 0)), (1, .int p1), (2, .int p2)] dX12_week_32 (Nat.le_of_ble_eq_true rfl) rfl ?_
    refine zs_sub [2, 4, 1, 0] rfl ?_
    exact t_X12_week_34 hN zz_fuel _ _ _ _
  · refine zs_bipush (v := (-3 : Int32)) dX12_week_17 cb_m3 ?_
    exact zs_iret dX12_week_19 rfl rfl rfl
/-! X12_isPillar: PillarDeskModel.isPillar(I)Z -/
theorem dX12_isPillar_0 : decode cX12_isPillar 0 = .ok (.iload_n 1, 1) := by decide +kernel
theorem dX12_isPillar_1 : decode cX12_isPillar 1 = .ok (.i2l, 1) := by decide +kernel
theorem dX12_isPillar_2 : decode cX12_isPillar 2 = .ok (.lconst 0, 1) := by decide +kernel
theorem dX12_isPillar_3 : decode cX12_isPillar 3 = .ok (.aload_n 0, 1) := by decide +kernel
theorem dX12_isPillar_4 : decode cX12_isPillar 4 = .ok (.getfield 272, 3) := by decide +kernel
theorem dX12_isPillar_7 : decode cX12_isPillar 7 = .ok (.iconst 1, 1) := by decide +kernel
theorem dX12_isPillar_8 : decode cX12_isPillar 8 = .ok (.isub, 1) := by decide +kernel
theorem dX12_isPillar_9 : decode cX12_isPillar 9 = .ok (.i2l, 1) := by decide +kernel
theorem dX12_isPillar_10 : decode cX12_isPillar 10 = .ok (.invokestatic 163, 3) := by decide +kernel
theorem dX12_isPillar_13 : decode cX12_isPillar 13 = .ok (.ireturn, 1) := by decide +kernel
def f_X12_isPillar (m : zz_Mem) (p1 : Int32) : Option Int32 :=
  zz_bndR (f_X12_within p1.toInt64 (0 : Int64) (((m.1 0 28) - (1 : Int32)).toInt64)) fun r1 =>
  zz_bo r1 (some r1)
theorem k_X12_isPillar {l : Launch} {G : zz_G} (hN : 26 ≤ zz_N G) : ∀ (p1 : Int32) (m : zz_Mem), zz_Con zz_shM l G mX12_isPillar 1 [.ref (zz_a G 0), .int p1] zz_vIr (zz_mC m) (f_X12_isPillar m p1) m := by
  intro p1 m
  refine zz_con (lv := [(0, .ref (zz_a G 0)), (1, .int p1)]) (by decide +kernel) (Nat.le_of_ble_eq_true rfl) rfl ?_
  unfold f_X12_isPillar
  refine zs_iload_n dX12_isPillar_0 rfl 1 rfl ?_
  refine zs_i2l dX12_isPillar_1 ?_
  refine zs_lconst (v := (0 : Int64)) dX12_isPillar_2 rfl ?_
  refine zs_aload_n dX12_isPillar_3 rfl 0 rfl ?_
  refine zs_getI fl_X12_272 dX12_isPillar_4 (shm_0 hN) rfl ?_
  refine zs_iconst (v := (1 : Int32)) dX12_isPillar_7 ci_1 ?_
  refine zs_isub dX12_isPillar_8 ?_
  refine zs_i2l dX12_isPillar_9 ?_
  refine zs_cS_iR (rest := []) (k_X12_within hN _ _ _ _) dX12_isPillar_10 ls_X12_163 ok_X12_within (Nat.le_of_ble_eq_true rfl) rfl rfl (Nat.le_of_ble_eq_true rfl) (fun r1 => ?_)
  exact zs_bret dX12_isPillar_13 rfl rfl rfl
/-! X12_pillars: PillarDeskModel.pillars()I -/
theorem dX12_pillars_0 : decode cX12_pillars 0 = .ok (.aload_n 0, 1) := by decide +kernel
theorem dX12_pillars_1 : decode cX12_pillars 1 = .ok (.iconst 0, 1) := by decide +kernel
theorem dX12_pillars_2 : decode cX12_pillars 2 = .ok (.putfield 1, 3) := by decide +kernel
theorem dX12_pillars_5 : decode cX12_pillars 5 = .ok (.aload_n 0, 1) := by decide +kernel
theorem dX12_pillars_6 : decode cX12_pillars 6 = .ok (.invokevirtual 312, 3) := by decide +kernel
theorem dX12_pillars_9 : decode cX12_pillars 9 = .ok (.aload_n 0, 1) := by decide +kernel
theorem dX12_pillars_10 : decode cX12_pillars 10 = .ok (.getfield 272, 3) := by decide +kernel
theorem dX12_pillars_13 : decode cX12_pillars 13 = .ok (.ireturn, 1) := by decide +kernel
def f_X12_pillars   (m : zz_Mem) : Option (Int32 × zz_Mem) :=
  zz_letM (zz_setI m 0 0 (0 : Int32)) fun m1 =>
  zz_bndR (f_X12_laysCurve m1) fun m2 =>
  some (m2.1 0 28, m2)
theorem k_X12_pillars {l : Launch} {G : zz_G} (hN : 26 ≤ zz_N G) : ∀ (m : zz_Mem), zz_Con zz_shM l G mX12_pillars 6 [.ref (zz_a G 0)] zz_vI zz_m2 (f_X12_pillars m) m := by
  intro m
  refine zz_con (lv := [(0, .ref (zz_a G 0))]) (by decide +kernel) (Nat.le_of_ble_eq_true rfl) rfl ?_
  unfold f_X12_pillars
  refine zs_aload_n dX12_pillars_0 rfl 0 rfl ?_
  refine zs_iconst (v := (0 : Int32)) dX12_pillars_1 ci_0 ?_
  refine zs_putI fl_X12_1 dX12_pillars_2 (shm_0 hN) rfl ⟨rfl, rfl⟩ (fun m1 => ?_)
  refine zs_aload_n dX12_pillars_5 rfl 0 rfl ?_
  refine zs_cV_vW (rest := []) (k_X12_laysCurve hN  _) dX12_pillars_6 lv_X12_312 ok_X12_laysCurve (zz_rcv_o (shm_0 hN) rfl) (Nat.le_of_ble_eq_true rfl) rfl rfl (Nat.le_of_ble_eq_true rfl) (fun m2 => ?_)
  refine zs_aload_n dX12_pillars_9 rfl 0 rfl ?_
  refine zs_getI fl_X12_272 dX12_pillars_10 (shm_0 hN) rfl ?_
  exact zs_iret dX12_pillars_13 rfl rfl rfl
/-! X12_pillar: PillarDeskModel.pillar(II)I -/
theorem dX12_pillar_0 : decode cX12_pillar 0 = .ok (.aload_n 0, 1) := by decide +kernel
theorem dX12_pillar_1 : decode cX12_pillar 1 = .ok (.iconst 0, 1) := by decide +kernel
theorem dX12_pillar_2 : decode cX12_pillar 2 = .ok (.putfield 1, 3) := by decide +kernel
theorem dX12_pillar_5 : decode cX12_pillar 5 = .ok (.aload_n 0, 1) := by decide +kernel
theorem dX12_pillar_6 : decode cX12_pillar 6 = .ok (.invokevirtual 312, 3) := by decide +kernel
theorem dX12_pillar_9 : decode cX12_pillar 9 = .ok (.aload_n 0, 1) := by decide +kernel
theorem dX12_pillar_10 : decode cX12_pillar 10 = .ok (.iload_n 1, 1) := by decide +kernel
theorem dX12_pillar_11 : decode cX12_pillar 11 = .ok (.invokevirtual 389, 3) := by decide +kernel
theorem dX12_pillar_14 : decode cX12_pillar 14 = .ok (.ifCond .ne 6, 3) := by decide +kernel
theorem dX12_pillar_17 : decode cX12_pillar 17 = .ok (.bipush (-2), 2) := by decide +kernel
theorem dX12_pillar_19 : decode cX12_pillar 19 = .ok (.ireturn, 1) := by decide +kernel
theorem dX12_pillar_20 : decode cX12_pillar 20 = .ok (.iload_n 2, 1) := by decide +kernel
theorem dX12_pillar_21 : decode cX12_pillar 21 = .ok (.ifCond .ne 12, 3) := by decide +kernel
theorem dX12_pillar_24 : decode cX12_pillar 24 = .ok (.aload_n 0, 1) := by decide +kernel
theorem dX12_pillar_25 : decode cX12_pillar 25 = .ok (.getfield 54, 3) := by decide +kernel
theorem dX12_pillar_28 : decode cX12_pillar 28 = .ok (.iload_n 1, 1) := by decide +kernel
theorem dX12_pillar_29 : decode cX12_pillar 29 = .ok (.iaload, 1) := by decide +kernel
theorem dX12_pillar_30 : decode cX12_pillar 30 = .ok (.goto 33, 3) := by decide +kernel
theorem dX12_pillar_33 : decode cX12_pillar 33 = .ok (.iload_n 2, 1) := by decide +kernel
theorem dX12_pillar_34 : decode cX12_pillar 34 = .ok (.iconst 1, 1) := by decide +kernel
theorem dX12_pillar_35 : decode cX12_pillar 35 = .ok (.if_icmp .ne 12, 3) := by decide +kernel
theorem dX12_pillar_38 : decode cX12_pillar 38 = .ok (.aload_n 0, 1) := by decide +kernel
theorem dX12_pillar_39 : decode cX12_pillar 39 = .ok (.getfield 57, 3) := by decide +kernel
theorem dX12_pillar_42 : decode cX12_pillar 42 = .ok (.iload_n 1, 1) := by decide +kernel
theorem dX12_pillar_43 : decode cX12_pillar 43 = .ok (.iaload, 1) := by decide +kernel
theorem dX12_pillar_44 : decode cX12_pillar 44 = .ok (.goto 19, 3) := by decide +kernel
theorem dX12_pillar_47 : decode cX12_pillar 47 = .ok (.iload_n 2, 1) := by decide +kernel
theorem dX12_pillar_48 : decode cX12_pillar 48 = .ok (.iconst 2, 1) := by decide +kernel
theorem dX12_pillar_49 : decode cX12_pillar 49 = .ok (.if_icmp .ne 12, 3) := by decide +kernel
theorem dX12_pillar_52 : decode cX12_pillar 52 = .ok (.aload_n 0, 1) := by decide +kernel
theorem dX12_pillar_53 : decode cX12_pillar 53 = .ok (.getfield 60, 3) := by decide +kernel
theorem dX12_pillar_56 : decode cX12_pillar 56 = .ok (.iload_n 1, 1) := by decide +kernel
theorem dX12_pillar_57 : decode cX12_pillar 57 = .ok (.iaload, 1) := by decide +kernel
theorem dX12_pillar_58 : decode cX12_pillar 58 = .ok (.goto 5, 3) := by decide +kernel
theorem dX12_pillar_61 : decode cX12_pillar 61 = .ok (.bipush (-2), 2) := by decide +kernel
theorem dX12_pillar_63 : decode cX12_pillar 63 = .ok (.ireturn, 1) := by decide +kernel
def f_X12_pillar  (p1 : Int32) (p2 : Int32) (m : zz_Mem) : Option (Int32 × zz_Mem) :=
  zz_letM (zz_setI m 0 0 (0 : Int32)) fun m1 =>
  zz_bndR (f_X12_laysCurve m1) fun m2 =>
  zz_bndR (f_X12_isPillar m2 p1) fun r3 =>
  if r3 = 0 then (
  some ((-2 : Int32), m2))
  else (
  if p2 = 0 then (
  zz_ix p1 9 <|
  some (m2.1 13 p1.toNatClampNeg, m2))
  else (
  if p2 = (1 : Int32) then (
  zz_ix p1 9 <|
  some (m2.1 14 p1.toNatClampNeg, m2))
  else (
  if p2 = (2 : Int32) then (
  zz_ix p1 9 <|
  some (m2.1 15 p1.toNatClampNeg, m2))
  else (
  some ((-2 : Int32), m2)))))
theorem k_X12_pillar {l : Launch} {G : zz_G} (hN : 26 ≤ zz_N G) : ∀ (p1 : Int32) (p2 : Int32) (m : zz_Mem), zz_Con zz_shM l G mX12_pillar 6 [.ref (zz_a G 0), .int p1, .int p2] zz_vI zz_m2 (f_X12_pillar p1 p2 m) m := by
  intro p1 p2 m
  refine zz_con (lv := [(0, .ref (zz_a G 0)), (1, .int p1), (2, .int p2)]) (by decide +kernel) (Nat.le_of_ble_eq_true rfl) rfl ?_
  unfold f_X12_pillar
  refine zs_aload_n dX12_pillar_0 rfl 0 rfl ?_
  refine zs_iconst (v := (0 : Int32)) dX12_pillar_1 ci_0 ?_
  refine zs_putI fl_X12_1 dX12_pillar_2 (shm_0 hN) rfl ⟨rfl, rfl⟩ (fun m1 => ?_)
  refine zs_aload_n dX12_pillar_5 rfl 0 rfl ?_
  refine zs_cV_vW (rest := []) (k_X12_laysCurve hN  _) dX12_pillar_6 lv_X12_312 ok_X12_laysCurve (zz_rcv_o (shm_0 hN) rfl) (Nat.le_of_ble_eq_true rfl) rfl rfl (Nat.le_of_ble_eq_true rfl) (fun m2 => ?_)
  refine zs_aload_n dX12_pillar_9 rfl 0 rfl ?_
  refine zs_iload_n dX12_pillar_10 rfl 1 rfl ?_
  refine zs_cV_iR (rest := []) (k_X12_isPillar hN _ _) dX12_pillar_11 lv_X12_389 ok_X12_isPillar (zz_rcv_o (shm_0 hN) rfl) (Nat.le_of_ble_eq_true rfl) rfl rfl (Nat.le_of_ble_eq_true rfl) (fun r3 => ?_)
  refine zs_if_ne (tgt := 20) dX12_pillar_14 (by decide) ?_ ?_
  · refine zs_iload_n dX12_pillar_20 rfl 2 rfl ?_
    refine zs_if_ne (tgt := 33) dX12_pillar_21 (by decide) ?_ ?_
    · refine zs_iload_n dX12_pillar_33 rfl 2 rfl ?_
      refine zs_iconst (v := (1 : Int32)) dX12_pillar_34 ci_1 ?_
      refine zs_icmp_ne (tgt := 47) dX12_pillar_35 (by decide) ?_ ?_
      · refine zs_iload_n dX12_pillar_47 rfl 2 rfl ?_
        refine zs_iconst (v := (2 : Int32)) dX12_pillar_48 ci_2 ?_
        refine zs_icmp_ne (tgt := 61) dX12_pillar_49 (by decide) ?_ ?_
        · refine zs_bipush (v := (-2 : Int32)) dX12_pillar_61 cb_m2 ?_
          exact zs_iret dX12_pillar_63 rfl rfl rfl
        · refine zs_aload_n dX12_pillar_52 rfl 0 rfl ?_
          refine zs_getR fl_X12_60 dX12_pillar_53 (shm_0 hN) rfl ?_
          refine zs_iload_n dX12_pillar_56 rfl 1 rfl ?_
          refine zs_ialdG dX12_pillar_57 (shm_15 hN) ?_
          refine zs_goto (tgt := 63) dX12_pillar_58 (by decide) ?_
          exact zs_iret dX12_pillar_63 rfl rfl rfl
      · refine zs_aload_n dX12_pillar_38 rfl 0 rfl ?_
        refine zs_getR fl_X12_57 dX12_pillar_39 (shm_0 hN) rfl ?_
        refine zs_iload_n dX12_pillar_42 rfl 1 rfl ?_
        refine zs_ialdG dX12_pillar_43 (shm_14 hN) ?_
        refine zs_goto (tgt := 63) dX12_pillar_44 (by decide) ?_
        exact zs_iret dX12_pillar_63 rfl rfl rfl
    · refine zs_aload_n dX12_pillar_24 rfl 0 rfl ?_
      refine zs_getR fl_X12_54 dX12_pillar_25 (shm_0 hN) rfl ?_
      refine zs_iload_n dX12_pillar_28 rfl 1 rfl ?_
      refine zs_ialdG dX12_pillar_29 (shm_13 hN) ?_
      refine zs_goto (tgt := 63) dX12_pillar_30 (by decide) ?_
      exact zs_iret dX12_pillar_63 rfl rfl rfl
  · refine zs_bipush (v := (-2 : Int32)) dX12_pillar_17 cb_m2 ?_
    exact zs_iret dX12_pillar_19 rfl rfl rfl
/-! X12_factor: PillarDeskModel.factor(I)I -/
theorem dX12_factor_0 : decode cX12_factor 0 = .ok (.aload_n 0, 1) := by decide +kernel
theorem dX12_factor_1 : decode cX12_factor 1 = .ok (.iconst 0, 1) := by decide +kernel
theorem dX12_factor_2 : decode cX12_factor 2 = .ok (.putfield 1, 3) := by decide +kernel
theorem dX12_factor_5 : decode cX12_factor 5 = .ok (.iload_n 1, 1) := by decide +kernel
theorem dX12_factor_6 : decode cX12_factor 6 = .ok (.sipush 9999, 3) := by decide +kernel
theorem dX12_factor_9 : decode cX12_factor 9 = .ok (.invokestatic 254, 3) := by decide +kernel
theorem dX12_factor_12 : decode cX12_factor 12 = .ok (.ifCond .ne 6, 3) := by decide +kernel
theorem dX12_factor_15 : decode cX12_factor 15 = .ok (.bipush (-3), 2) := by decide +kernel
theorem dX12_factor_17 : decode cX12_factor 17 = .ok (.ireturn, 1) := by decide +kernel
theorem dX12_factor_18 : decode cX12_factor 18 = .ok (.aload_n 0, 1) := by decide +kernel
theorem dX12_factor_19 : decode cX12_factor 19 = .ok (.invokevirtual 312, 3) := by decide +kernel
theorem dX12_factor_22 : decode cX12_factor 22 = .ok (.aload_n 0, 1) := by decide +kernel
theorem dX12_factor_23 : decode cX12_factor 23 = .ok (.iload_n 1, 1) := by decide +kernel
theorem dX12_factor_24 : decode cX12_factor 24 = .ok (.invokevirtual 290, 3) := by decide +kernel
theorem dX12_factor_27 : decode cX12_factor 27 = .ok (.ireturn, 1) := by decide +kernel
def f_X12_factor  (p1 : Int32) (m : zz_Mem) : Option (Int32 × zz_Mem) :=
  zz_letM (zz_setI m 0 0 (0 : Int32)) fun m1 =>
  zz_bndR (f_X12_isDay p1 (9999 : Int32)) fun r2 =>
  if r2 = 0 then (
  some ((-3 : Int32), m1))
  else (
  zz_bndR (f_X12_laysCurve m1) fun m3 =>
  zz_bndR (f_X12_factorAt m3 p1) fun r4 =>
  some (r4, m3))
theorem k_X12_factor {l : Launch} {G : zz_G} (hN : 26 ≤ zz_N G) : ∀ (p1 : Int32) (m : zz_Mem), zz_Con zz_shM l G mX12_factor 6 [.ref (zz_a G 0), .int p1] zz_vI zz_m2 (f_X12_factor p1 m) m := by
  intro p1 m
  refine zz_con (lv := [(0, .ref (zz_a G 0)), (1, .int p1)]) (by decide +kernel) (Nat.le_of_ble_eq_true rfl) rfl ?_
  unfold f_X12_factor
  refine zs_aload_n dX12_factor_0 rfl 0 rfl ?_
  refine zs_iconst (v := (0 : Int32)) dX12_factor_1 ci_0 ?_
  refine zs_putI fl_X12_1 dX12_factor_2 (shm_0 hN) rfl ⟨rfl, rfl⟩ (fun m1 => ?_)
  refine zs_iload_n dX12_factor_5 rfl 1 rfl ?_
  refine zs_sipush (v := (9999 : Int32)) dX12_factor_6 cs_9999 ?_
  refine zs_cS_iR (rest := []) (k_X12_isDay hN _ _ _) dX12_factor_9 ls_X12_254 ok_X12_isDay (Nat.le_of_ble_eq_true rfl) rfl rfl (Nat.le_of_ble_eq_true rfl) (fun r2 => ?_)
  refine zs_if_ne (tgt := 18) dX12_factor_12 (by decide) ?_ ?_
  · refine zs_aload_n dX12_factor_18 rfl 0 rfl ?_
    refine zs_cV_vW (rest := []) (k_X12_laysCurve hN  _) dX12_factor_19 lv_X12_312 ok_X12_laysCurve (zz_rcv_o (shm_0 hN) rfl) (Nat.le_of_ble_eq_true rfl) rfl rfl (Nat.le_of_ble_eq_true rfl) (fun m3 => ?_)
    refine zs_aload_n dX12_factor_22 rfl 0 rfl ?_
    refine zs_iload_n dX12_factor_23 rfl 1 rfl ?_
    refine zs_cV_iR (rest := []) (k_X12_factorAt hN _ _) dX12_factor_24 lv_X12_290 ok_X12_factorAt (zz_rcv_o (shm_0 hN) rfl) (Nat.le_of_ble_eq_true rfl) rfl rfl (Nat.le_of_ble_eq_true rfl) (fun r4 => ?_)
    exact zs_iret dX12_factor_27 rfl rfl rfl
  · refine zs_bipush (v := (-3 : Int32)) dX12_factor_15 cb_m3 ?_
    exact zs_iret dX12_factor_17 rfl rfl rfl
/-! X12_rateOf: PillarDeskModel.rateOf(II)I -/
theorem dX12_rateOf_0 : decode cX12_rateOf 0 = .ok (.aload_n 0, 1) := by decide +kernel
theorem dX12_rateOf_1 : decode cX12_rateOf 1 = .ok (.iload_n 1, 1) := by decide +kernel
theorem dX12_rateOf_2 : decode cX12_rateOf 2 = .ok (.invokevirtual 290, 3) := by decide +kernel
theorem dX12_rateOf_5 : decode cX12_rateOf 5 = .ok (.aload_n 0, 1) := by decide +kernel
theorem dX12_rateOf_6 : decode cX12_rateOf 6 = .ok (.iload_n 2, 1) := by decide +kernel
theorem dX12_rateOf_7 : decode cX12_rateOf 7 = .ok (.invokevirtual 290, 3) := by decide +kernel
theorem dX12_rateOf_10 : decode cX12_rateOf 10 = .ok (.isub, 1) := by decide +kernel
theorem dX12_rateOf_11 : decode cX12_rateOf 11 = .ok (.i2l, 1) := by decide +kernel
theorem dX12_rateOf_12 : decode cX12_rateOf 12 = .ok (.ldc2_w 282, 3) := by decide +kernel
theorem dX12_rateOf_15 : decode cX12_rateOf 15 = .ok (.lmul, 1) := by decide +kernel
theorem dX12_rateOf_16 : decode cX12_rateOf 16 = .ok (.lstore_n 3, 1) := by decide +kernel
theorem dX12_rateOf_17 : decode cX12_rateOf 17 = .ok (.lload_n 3, 1) := by decide +kernel
theorem dX12_rateOf_18 : decode cX12_rateOf 18 = .ok (.aload_n 0, 1) := by decide +kernel
theorem dX12_rateOf_19 : decode cX12_rateOf 19 = .ok (.iload_n 2, 1) := by decide +kernel
theorem dX12_rateOf_20 : decode cX12_rateOf 20 = .ok (.invokevirtual 290, 3) := by decide +kernel
theorem dX12_rateOf_23 : decode cX12_rateOf 23 = .ok (.i2l, 1) := by decide +kernel
theorem dX12_rateOf_24 : decode cX12_rateOf 24 = .ok (.iload_n 2, 1) := by decide +kernel
theorem dX12_rateOf_25 : decode cX12_rateOf 25 = .ok (.iload_n 1, 1) := by decide +kernel
theorem dX12_rateOf_26 : decode cX12_rateOf 26 = .ok (.isub, 1) := by decide +kernel
theorem dX12_rateOf_27 : decode cX12_rateOf 27 = .ok (.i2l, 1) := by decide +kernel
theorem dX12_rateOf_28 : decode cX12_rateOf 28 = .ok (.lmul, 1) := by decide +kernel
theorem dX12_rateOf_29 : decode cX12_rateOf 29 = .ok (.invokestatic 278, 3) := by decide +kernel
theorem dX12_rateOf_32 : decode cX12_rateOf 32 = .ok (.l2i, 1) := by decide +kernel
theorem dX12_rateOf_33 : decode cX12_rateOf 33 = .ok (.ireturn, 1) := by decide +kernel
def f_X12_rateOf (m : zz_Mem) (p1 : Int32) (p2 : Int32) : Option Int32 :=
  zz_bndR (f_X12_factorAt m p1) fun r1 =>
  zz_bndR (f_X12_factorAt m p2) fun r2 =>
  zz_letJ (((r1 - r2).toInt64) * (3600000 : Int64)) fun y3 =>
  zz_bndR (f_X12_factorAt m p2) fun r4 =>
  zz_bndR (f_X12_floorOf y3 (r4.toInt64 * ((p2 - p1).toInt64))) fun r5 =>
  some r5.toInt32
theorem k_X12_rateOf {l : Launch} {G : zz_G} (hN : 26 ≤ zz_N G) : ∀ (p1 : Int32) (p2 : Int32) (m : zz_Mem), zz_Con zz_shM l G mX12_rateOf 2 [.ref (zz_a G 0), .int p1, .int p2] zz_vIr (zz_mC m) (f_X12_rateOf m p1 p2) m := by
  intro p1 p2 m
  refine zz_con (lv := [(0, .ref (zz_a G 0)), (1, .int p1), (2, .int p2)]) (by decide +kernel) (Nat.le_of_ble_eq_true rfl) rfl ?_
  unfold f_X12_rateOf
  refine zs_aload_n dX12_rateOf_0 rfl 0 rfl ?_
  refine zs_iload_n dX12_rateOf_1 rfl 1 rfl ?_
  refine zs_cV_iR (rest := []) (k_X12_factorAt hN _ _) dX12_rateOf_2 lv_X12_290 ok_X12_factorAt (zz_rcv_o (shm_0 hN) rfl) (Nat.le_of_ble_eq_true rfl) rfl rfl (Nat.le_of_ble_eq_true rfl) (fun r1 => ?_)
  refine zs_aload_n dX12_rateOf_5 rfl 0 rfl ?_
  refine zs_iload_n dX12_rateOf_6 rfl 2 rfl ?_
  refine zs_cV_iR (rest := [.int r1]) (k_X12_factorAt hN _ _) dX12_rateOf_7 lv_X12_290 ok_X12_factorAt (zz_rcv_o (shm_0 hN) rfl) (Nat.le_of_ble_eq_true rfl) rfl rfl (Nat.le_of_ble_eq_true rfl) (fun r2 => ?_)
  refine zs_isub dX12_rateOf_10 ?_
  refine zs_i2l dX12_rateOf_11 ?_
  refine zs_ldc2 (v := (3600000 : Int64)) dX12_rateOf_12 kc_X12_282 ?_
  refine zs_lmul dX12_rateOf_15 ?_
  refine zs_letJ (fun y3 => ?_)
  refine zs_lstore_n [(3, .long y3), (0, .ref (zz_a G 0)), (1, .int p1), (2, .int p2)] dX12_rateOf_16 rfl (Nat.le_of_ble_eq_true rfl) rfl ?_
  refine zs_lload_n dX12_rateOf_17 rfl 0 rfl ?_
  refine zs_aload_n dX12_rateOf_18 rfl 1 rfl ?_
  refine zs_iload_n dX12_rateOf_19 rfl 3 rfl ?_
  refine zs_cV_iR (rest := [.long y3]) (k_X12_factorAt hN _ _) dX12_rateOf_20 lv_X12_290 ok_X12_factorAt (zz_rcv_o (shm_0 hN) rfl) (Nat.le_of_ble_eq_true rfl) rfl rfl (Nat.le_of_ble_eq_true rfl) (fun r4 => ?_)
  refine zs_i2l dX12_rateOf_23 ?_
  refine zs_iload_n dX12_rateOf_24 rfl 3 rfl ?_
  refine zs_iload_n dX12_rateOf_25 rfl 2 rfl ?_
  refine zs_isub dX12_rateOf_26 ?_
  refine zs_i2l dX12_rateOf_27 ?_
  refine zs_lmul dX12_rateOf_28 ?_
  refine zs_cS_jR (rest := []) (k_X12_floorOf hN _ _ _) dX12_rateOf_29 ls_X12_278 ok_X12_floorOf (Nat.le_of_ble_eq_true rfl) rfl rfl (Nat.le_of_ble_eq_true rfl) (fun r5 => ?_)
  refine zs_l2i dX12_rateOf_32 ?_
  exact zs_iret dX12_rateOf_33 rfl rfl rfl
/-! X12_forward: PillarDeskModel.forward(II)I -/
theorem dX12_forward_0 : decode cX12_forward 0 = .ok (.aload_n 0, 1) := by decide +kernel
theorem dX12_forward_1 : decode cX12_forward 1 = .ok (.iconst 0, 1) := by decide +kernel
theorem dX12_forward_2 : decode cX12_forward 2 = .ok (.putfield 1, 3) := by decide +kernel
theorem dX12_forward_5 : decode cX12_forward 5 = .ok (.iload_n 1, 1) := by decide +kernel
theorem dX12_forward_6 : decode cX12_forward 6 = .ok (.sipush 9998, 3) := by decide +kernel
theorem dX12_forward_9 : decode cX12_forward 9 = .ok (.invokestatic 254, 3) := by decide +kernel
theorem dX12_forward_12 : decode cX12_forward 12 = .ok (.ifCond .eq 18, 3) := by decide +kernel
theorem dX12_forward_15 : decode cX12_forward 15 = .ok (.iload_n 2, 1) := by decide +kernel
theorem dX12_forward_16 : decode cX12_forward 16 = .ok (.i2l, 1) := by decide +kernel
theorem dX12_forward_17 : decode cX12_forward 17 = .ok (.iload_n 1, 1) := by decide +kernel
theorem dX12_forward_18 : decode cX12_forward 18 = .ok (.i2l, 1) := by decide +kernel
theorem dX12_forward_19 : decode cX12_forward 19 = .ok (.lconst 1, 1) := by decide +kernel
theorem dX12_forward_20 : decode cX12_forward 20 = .ok (.ladd, 1) := by decide +kernel
theorem dX12_forward_21 : decode cX12_forward 21 = .ok (.ldc2_w 392, 3) := by decide +kernel
theorem dX12_forward_24 : decode cX12_forward 24 = .ok (.invokestatic 163, 3) := by decide +kernel
theorem dX12_forward_27 : decode cX12_forward 27 = .ok (.ifCond .ne 6, 3) := by decide +kernel
theorem dX12_forward_30 : decode cX12_forward 30 = .ok (.bipush (-3), 2) := by decide +kernel
theorem dX12_forward_32 : decode cX12_forward 32 = .ok (.ireturn, 1) := by decide +kernel
theorem dX12_forward_33 : decode cX12_forward 33 = .ok (.aload_n 0, 1) := by decide +kernel
theorem dX12_forward_34 : decode cX12_forward 34 = .ok (.invokevirtual 312, 3) := by decide +kernel
theorem dX12_forward_37 : decode cX12_forward 37 = .ok (.aload_n 0, 1) := by decide +kernel
theorem dX12_forward_38 : decode cX12_forward 38 = .ok (.iload_n 1, 1) := by decide +kernel
theorem dX12_forward_39 : decode cX12_forward 39 = .ok (.iload_n 2, 1) := by decide +kernel
theorem dX12_forward_40 : decode cX12_forward 40 = .ok (.invokevirtual 394, 3) := by decide +kernel
theorem dX12_forward_43 : decode cX12_forward 43 = .ok (.ireturn, 1) := by decide +kernel
def f_X12_forward  (p1 : Int32) (p2 : Int32) (m : zz_Mem) : Option (Int32 × zz_Mem) :=
  zz_letM (zz_setI m 0 0 (0 : Int32)) fun m1 =>
  zz_bndR (f_X12_isDay p1 (9998 : Int32)) fun r2 =>
  if r2 = 0 then (
  some ((-3 : Int32), m1))
  else (
  zz_bndR (f_X12_within p2.toInt64 (p1.toInt64 + (1 : Int64)) (9999 : Int64)) fun r3 =>
  if r3 = 0 then (
  some ((-3 : Int32), m1))
  else (
  zz_bndR (f_X12_laysCurve m1) fun m4 =>
  zz_bndR (f_X12_rateOf m4 p1 p2) fun r5 =>
  some (r5, m4)))
theorem k_X12_forward {l : Launch} {G : zz_G} (hN : 26 ≤ zz_N G) : ∀ (p1 : Int32) (p2 : Int32) (m : zz_Mem), zz_Con zz_shM l G mX12_forward 6 [.ref (zz_a G 0), .int p1, .int p2] zz_vI zz_m2 (f_X12_forward p1 p2 m) m := by
  intro p1 p2 m
  refine zz_con (lv := [(0, .ref (zz_a G 0)), (1, .int p1), (2, .int p2)]) (by decide +kernel) (Nat.le_of_ble_eq_true rfl) rfl ?_
  unfold f_X12_forward
  refine zs_aload_n dX12_forward_0 rfl 0 rfl ?_
  refine zs_iconst (v := (0 : Int32)) dX12_forward_1 ci_0 ?_
  refine zs_putI fl_X12_1 dX12_forward_2 (shm_0 hN) rfl ⟨rfl, rfl⟩ (fun m1 => ?_)
  refine zs_iload_n dX12_forward_5 rfl 1 rfl ?_
  refine zs_sipush (v := (9998 : Int32)) dX12_forward_6 cs_9998 ?_
  refine zs_cS_iR (rest := []) (k_X12_isDay hN _ _ _) dX12_forward_9 ls_X12_254 ok_X12_isDay (Nat.le_of_ble_eq_true rfl) rfl rfl (Nat.le_of_ble_eq_true rfl) (fun r2 => ?_)
  refine zs_if_eq (tgt := 30) dX12_forward_12 (by decide) ?_ ?_
  · refine zs_bipush (v := (-3 : Int32)) dX12_forward_30 cb_m3 ?_
    exact zs_iret dX12_forward_32 rfl rfl rfl
  · refine zs_iload_n dX12_forward_15 rfl 2 rfl ?_
    refine zs_i2l dX12_forward_16 ?_
    refine zs_iload_n dX12_forward_17 rfl 1 rfl ?_
    refine zs_i2l dX12_forward_18 ?_
    refine zs_lconst (v := (1 : Int64)) dX12_forward_19 rfl ?_
    refine zs_ladd dX12_forward_20 ?_
    refine zs_ldc2 (v := (9999 : Int64)) dX12_forward_21 kc_X12_392 ?_
    refine zs_cS_iR (rest := []) (k_X12_within hN _ _ _ _) dX12_forward_24 ls_X12_163 ok_X12_within (Nat.le_of_ble_eq_true rfl) rfl rfl (Nat.le_of_ble_eq_true rfl) (fun r3 => ?_)
    refine zs_if_ne (tgt := 33) dX12_forward_27 (by decide) ?_ ?_
    · refine zs_aload_n dX12_forward_33 rfl 0 rfl ?_
      refine zs_cV_vW (rest := []) (k_X12_laysCurve hN  _) dX12_forward_34 lv_X12_312 ok_X12_laysCurve (zz_rcv_o (shm_0 hN) rfl) (Nat.le_of_ble_eq_true rfl) rfl rfl (Nat.le_of_ble_eq_true rfl) (fun m4 => ?_)
      refine zs_aload_n dX12_forward_37 rfl 0 rfl ?_
      refine zs_iload_n dX12_forward_38 rfl 1 rfl ?_
      refine zs_iload_n dX12_forward_39 rfl 2 rfl ?_
      refine zs_cV_iR (rest := []) (k_X12_rateOf hN _ _ _) dX12_forward_40 lv_X12_394 ok_X12_rateOf (zz_rcv_o (shm_0 hN) rfl) (Nat.le_of_ble_eq_true rfl) rfl rfl (Nat.le_of_ble_eq_true rfl) (fun r5 => ?_)
      exact zs_iret dX12_forward_43 rfl rfl rfl
    · refine zs_bipush (v := (-3 : Int32)) dX12_forward_30 cb_m3 ?_
      exact zs_iret dX12_forward_32 rfl rfl rfl
/-! X12_implied: PillarDeskModel.implied(I)I -/
theorem dX12_implied_0 : decode cX12_implied 0 = .ok (.aload_n 0, 1) := by decide +kernel
theorem dX12_implied_1 : decode cX12_implied 1 = .ok (.iconst 0, 1) := by decide +kernel
theorem dX12_implied_2 : decode cX12_implied 2 = .ok (.putfield 1, 3) := by decide +kernel
theorem dX12_implied_5 : decode cX12_implied 5 = .ok (.aload_n 0, 1) := by decide +kernel
theorem dX12_implied_6 : decode cX12_implied 6 = .ok (.iload_n 1, 1) := by decide +kernel
theorem dX12_implied_7 : decode cX12_implied 7 = .ok (.i2l, 1) := by decide +kernel
theorem dX12_implied_8 : decode cX12_implied 8 = .ok (.invokevirtual 262, 3) := by decide +kernel
theorem dX12_implied_11 : decode cX12_implied 11 = .ok (.ifCond .ne 6, 3) := by decide +kernel
theorem dX12_implied_14 : decode cX12_implied 14 = .ok (.bipush (-2), 2) := by decide +kernel
theorem dX12_implied_16 : decode cX12_implied 16 = .ok (.ireturn, 1) := by decide +kernel
theorem dX12_implied_17 : decode cX12_implied 17 = .ok (.aload_n 0, 1) := by decide +kernel
theorem dX12_implied_18 : decode cX12_implied 18 = .ok (.getfield 36, 3) := by decide +kernel
theorem dX12_implied_21 : decode cX12_implied 21 = .ok (.iload_n 1, 1) := by decide +kernel
theorem dX12_implied_22 : decode cX12_implied 22 = .ok (.iaload, 1) := by decide +kernel
theorem dX12_implied_23 : decode cX12_implied 23 = .ok (.aload_n 0, 1) := by decide +kernel
theorem dX12_implied_24 : decode cX12_implied 24 = .ok (.getfield 39, 3) := by decide +kernel
theorem dX12_implied_27 : decode cX12_implied 27 = .ok (.iload_n 1, 1) := by decide +kernel
theorem dX12_implied_28 : decode cX12_implied 28 = .ok (.iaload, 1) := by decide +kernel
theorem dX12_implied_29 : decode cX12_implied 29 = .ok (.if_icmp .lt 6, 3) := by decide +kernel
theorem dX12_implied_32 : decode cX12_implied 32 = .ok (.bipush (-5), 2) := by decide +kernel
theorem dX12_implied_34 : decode cX12_implied 34 = .ok (.ireturn, 1) := by decide +kernel
theorem dX12_implied_35 : decode cX12_implied 35 = .ok (.aload_n 0, 1) := by decide +kernel
theorem dX12_implied_36 : decode cX12_implied 36 = .ok (.invokevirtual 312, 3) := by decide +kernel
theorem dX12_implied_39 : decode cX12_implied 39 = .ok (.aload_n 0, 1) := by decide +kernel
theorem dX12_implied_40 : decode cX12_implied 40 = .ok (.getfield 13, 3) := by decide +kernel
theorem dX12_implied_43 : decode cX12_implied 43 = .ok (.bipush 24, 2) := by decide +kernel
theorem dX12_implied_45 : decode cX12_implied 45 = .ok (.iload_n 1, 1) := by decide +kernel
theorem dX12_implied_46 : decode cX12_implied 46 = .ok (.iadd, 1) := by decide +kernel
theorem dX12_implied_47 : decode cX12_implied 47 = .ok (.iaload, 1) := by decide +kernel
theorem dX12_implied_48 : decode cX12_implied 48 = .ok (.iconst 2, 1) := by decide +kernel
theorem dX12_implied_49 : decode cX12_implied 49 = .ok (.if_icmp .eq 20, 3) := by decide +kernel
theorem dX12_implied_52 : decode cX12_implied 52 = .ok (.aload_n 0, 1) := by decide +kernel
theorem dX12_implied_53 : decode cX12_implied 53 = .ok (.aload_n 0, 1) := by decide +kernel
theorem dX12_implied_54 : decode cX12_implied 54 = .ok (.getfield 36, 3) := by decide +kernel
theorem dX12_implied_57 : decode cX12_implied 57 = .ok (.iload_n 1, 1) := by decide +kernel
theorem dX12_implied_58 : decode cX12_implied 58 = .ok (.iaload, 1) := by decide +kernel
theorem dX12_implied_59 : decode cX12_implied 59 = .ok (.aload_n 0, 1) := by decide +kernel
theorem dX12_implied_60 : decode cX12_implied 60 = .ok (.getfield 39, 3) := by decide +kernel
theorem dX12_implied_63 : decode cX12_implied 63 = .ok (.iload_n 1, 1) := by decide +kernel
theorem dX12_implied_64 : decode cX12_implied 64 = .ok (.iaload, 1) := by decide +kernel
theorem dX12_implied_65 : decode cX12_implied 65 = .ok (.invokevirtual 394, 3) := by decide +kernel
theorem dX12_implied_68 : decode cX12_implied 68 = .ok (.ireturn, 1) := by decide +kernel
theorem dX12_implied_69 : decode cX12_implied 69 = .ok (.lconst 0, 1) := by decide +kernel
theorem dX12_implied_70 : decode cX12_implied 70 = .ok (.lstore_n 2, 1) := by decide +kernel
theorem dX12_implied_71 : decode cX12_implied 71 = .ok (.iconst 0, 1) := by decide +kernel
theorem dX12_implied_72 : decode cX12_implied 72 = .ok (.istore 4, 2) := by decide +kernel
theorem dX12_implied_74 : decode cX12_implied 74 = .ok (.iload 4, 2) := by decide +kernel
theorem dX12_implied_76 : decode cX12_implied 76 = .ok (.aload_n 0, 1) := by decide +kernel
theorem dX12_implied_77 : decode cX12_implied 77 = .ok (.getfield 45, 3) := by decide +kernel
theorem dX12_implied_80 : decode cX12_implied 80 = .ok (.iload_n 1, 1) := by decide +kernel
theorem dX12_implied_81 : decode cX12_implied 81 = .ok (.iaload, 1) := by decide +kernel
theorem dX12_implied_82 : decode cX12_implied 82 = .ok (.if_icmp .ge 33, 3) := by decide +kernel
theorem dX12_implied_85 : decode cX12_implied 85 = .ok (.lload_n 2, 1) := by decide +kernel
theorem dX12_implied_86 : decode cX12_implied 86 = .ok (.aload_n 0, 1) := by decide +kernel
theorem dX12_implied_87 : decode cX12_implied 87 = .ok (.iload_n 1, 1) := by decide +kernel
theorem dX12_implied_88 : decode cX12_implied 88 = .ok (.iload 4, 2) := by decide +kernel
theorem dX12_implied_90 : decode cX12_implied 90 = .ok (.invokevirtual 293, 3) := by decide +kernel
theorem dX12_implied_93 : decode cX12_implied 93 = .ok (.i2l, 1) := by decide +kernel
theorem dX12_implied_94 : decode cX12_implied 94 = .ok (.aload_n 0, 1) := by decide +kernel
theorem dX12_implied_95 : decode cX12_implied 95 = .ok (.aload_n 0, 1) := by decide +kernel
theorem dX12_implied_96 : decode cX12_implied 96 = .ok (.iload_n 1, 1) := by decide +kernel
theorem dX12_implied_97 : decode cX12_implied 97 = .ok (.iload 4, 2) := by decide +kernel
theorem dX12_implied_99 : decode cX12_implied 99 = .ok (.invokevirtual 251, 3) := by decide +kernel
theorem dX12_implied_102 : decode cX12_implied 102 = .ok (.invokevirtual 290, 3) := by decide +kernel
theorem dX12_implied_105 : decode cX12_implied 105 = .ok (.i2l, 1) := by decide +kernel
theorem dX12_implied_106 : decode cX12_implied 106 = .ok (.lmul, 1) := by decide +kernel
theorem dX12_implied_107 : decode cX12_implied 107 = .ok (.ladd, 1) := by decide +kernel
theorem dX12_implied_108 : decode cX12_implied 108 = .ok (.lstore_n 2, 1) := by decide +kernel
theorem dX12_implied_109 : decode cX12_implied 109 = .ok (.iinc 4 1, 3) := by decide +kernel
theorem dX12_implied_112 : decode cX12_implied 112 = .ok (.goto (-38), 3) := by decide +kernel
theorem dX12_implied_115 : decode cX12_implied 115 = .ok (.ldc_w 298, 3) := by decide +kernel
theorem dX12_implied_118 : decode cX12_implied 118 = .ok (.aload_n 0, 1) := by decide +kernel
theorem dX12_implied_119 : decode cX12_implied 119 = .ok (.aload_n 0, 1) := by decide +kernel
theorem dX12_implied_120 : decode cX12_implied 120 = .ok (.getfield 39, 3) := by decide +kernel
theorem dX12_implied_123 : decode cX12_implied 123 = .ok (.iload_n 1, 1) := by decide +kernel
theorem dX12_implied_124 : decode cX12_implied 124 = .ok (.iaload, 1) := by decide +kernel
theorem dX12_implied_125 : decode cX12_implied 125 = .ok (.invokevirtual 290, 3) := by decide +kernel
theorem dX12_implied_128 : decode cX12_implied 128 = .ok (.isub, 1) := by decide +kernel
theorem dX12_implied_129 : decode cX12_implied 129 = .ok (.i2l, 1) := by decide +kernel
theorem dX12_implied_130 : decode cX12_implied 130 = .ok (.ldc2_w 282, 3) := by decide +kernel
theorem dX12_implied_133 : decode cX12_implied 133 = .ok (.lmul, 1) := by decide +kernel
theorem dX12_implied_134 : decode cX12_implied 134 = .ok (.lload_n 2, 1) := by decide +kernel
theorem dX12_implied_135 : decode cX12_implied 135 = .ok (.invokestatic 278, 3) := by decide +kernel
theorem dX12_implied_138 : decode cX12_implied 138 = .ok (.l2i, 1) := by decide +kernel
theorem dX12_implied_139 : decode cX12_implied 139 = .ok (.ireturn, 1) := by decide +kernel
def f_X12_implied_115   (v1 : Int32) (v2 : Int64) (m : zz_Mem) : Option (Int32 × zz_Mem) :=
  zz_ix v1 8 <|
  zz_bndR (f_X12_factorAt m (m.1 8 v1.toNatClampNeg)) fun r1 =>
  zz_bndR (f_X12_floorOf ((((1000000000 : Int32) - r1).toInt64) * (3600000 : Int64)) v2) fun r2 =>
  some (r2.toInt32, m)
theorem t_X12_implied_115 {l : Launch} {G : zz_G} (hN : 26 ≤ zz_N G)  : ∀ (v1 : Int32) (v2 : Int64) (m : zz_Mem), zz_Sim zz_shM l G mX12_implied 6 zz_vI zz_m2 (f_X12_implied_115 v1 v2 m) 115 [(0, .ref (zz_a G 0)), (1, .int v1), (2, .long v2)] [] m := by
  intro v1 v2 m
  unfold f_X12_implied_115
  refine zs_ldcw (v := (1000000000 : Int32)) dX12_implied_115 kc_X12_298 ?_
  refine zs_aload_n dX12_implied_118 rfl 0 rfl ?_
  refine zs_aload_n dX12_implied_119 rfl 0 rfl ?_
  refine zs_getR fl_X12_39 dX12_implied_120 (shm_0 hN) rfl ?_
  refine zs_iload_n dX12_implied_123 rfl 1 rfl ?_
  refine zs_ialdG dX12_implied_124 (shm_8 hN) ?_
  refine zs_cV_iR (rest := [.int (1000000000 : Int32)]) (k_X12_factorAt hN _ _) dX12_implied_125 lv_X12_290 ok_X12_factorAt (zz_rcv_o (shm_0 hN) rfl) (Nat.le_of_ble_eq_true rfl) rfl rfl (Nat.le_of_ble_eq_true rfl) (fun r1 => ?_)
  refine zs_isub dX12_implied_128 ?_
  refine zs_i2l dX12_implied_129 ?_
  refine zs_ldc2 (v := (3600000 : Int64)) dX12_implied_130 kc_X12_282 ?_
  refine zs_lmul dX12_implied_133 ?_
  refine zs_lload_n dX12_implied_134 rfl 2 rfl ?_
  refine zs_cS_jR (rest := []) (k_X12_floorOf hN _ _ _) dX12_implied_135 ls_X12_278 ok_X12_floorOf (Nat.le_of_ble_eq_true rfl) rfl rfl (Nat.le_of_ble_eq_true rfl) (fun r2 => ?_)
  refine zs_l2i dX12_implied_138 ?_
  exact zs_iret dX12_implied_139 rfl rfl rfl
def f_X12_implied_74   : Nat → Int32 → Int64 → Int32 → zz_Mem → Option (Int32 × zz_Mem)
  | 0, _, _, _, _ => none
  | n + 1, v1, v2, v4, m =>
  zz_ix v1 8 <|
  if (m.1 10 v1.toNatClampNeg) ≤ v4 then (
  f_X12_implied_115 v1 v2 m)
  else (
  zz_bndR (f_X12_lengthOf m v1 v4) fun r1 =>
  zz_bndR (f_X12_endOf m v1 v4) fun r2 =>
  zz_bndR (f_X12_factorAt m r2) fun r3 =>
  zz_letJ (v2 + (r1.toInt64 * r3.toInt64)) fun y4 =>
  zz_letI (v4 + (1 : Int32)) fun x5 =>
  f_X12_implied_74 n v1 y4 x5 m)
theorem t_X12_implied_74 {l : Launch} {G : zz_G} (hN : 26 ≤ zz_N G)  : ∀ (n : Nat) (v1 : Int32) (v2 : Int64) (v4 : Int32) (m : zz_Mem), zz_Sim zz_shM l G mX12_implied 6 zz_vI zz_m2 (f_X12_implied_74 n v1 v2 v4 m) 74 [(0, .ref (zz_a G 0)), (1, .int v1), (2, .long v2), (4, .int v4)] [] m := by
  intro n
  induction n with
  | zero => intro _ _ _ _; exact zs_none
  | succ n ih =>
    intro v1 v2 v4 m
    rw [f_X12_implied_74]
    refine zs_iload dX12_implied_74 3 rfl ?_
    refine zs_aload_n dX12_implied_76 rfl 0 rfl ?_
    refine zs_getR fl_X12_45 dX12_implied_77 (shm_0 hN) rfl ?_
    refine zs_iload_n dX12_implied_80 rfl 1 rfl ?_
    refine zs_ialdG dX12_implied_81 (shm_10 hN) ?_
    refine zs_icmp_ge (tgt := 115) dX12_implied_82 (by decide) ?_ ?_
    · refine zs_sub [0, 1, 2] rfl ?_
      exact t_X12_implied_115 hN _ _ _
    · refine zs_lload_n dX12_implied_85 rfl 2 rfl ?_
      refine zs_aload_n dX12_implied_86 rfl 0 rfl ?_
      refine zs_iload_n dX12_implied_87 rfl 1 rfl ?_
      refine zs_iload dX12_implied_88 3 rfl ?_
      refine zs_cV_iR (rest := [.long v2]) (k_X12_lengthOf hN _ _ _) dX12_implied_90 lv_X12_293 ok_X12_lengthOf (zz_rcv_o (shm_0 hN) rfl) (Nat.le_of_ble_eq_true rfl) rfl rfl (Nat.le_of_ble_eq_true rfl) (fun r1 => ?_)
      refine zs_i2l dX12_implied_93 ?_
      refine zs_aload_n dX12_implied_94 rfl 0 rfl ?_
      refine zs_aload_n dX12_implied_95 rfl 0 rfl ?_
      refine zs_iload_n dX12_implied_96 rfl 1 rfl ?_
      refine zs_iload dX12_implied_97 3 rfl ?_
      refine zs_cV_iR (rest := [.ref (zz_a G 0), .long r1.toInt64, .long v2]) (k_X12_endOf hN _ _ _) dX12_implied_99 lv_X12_251 ok_X12_endOf (zz_rcv_o (shm_0 hN) rfl) (Nat.le_of_ble_eq_true rfl) rfl rfl (Nat.le_of_ble_eq_true rfl) (fun r2 => ?_)
      refine zs_cV_iR (rest := [.long r1.toInt64, .long v2]) (k_X12_factorAt hN _ _) dX12_implied_102 lv_X12_290 ok_X12_factorAt (zz_rcv_o (shm_0 hN) rfl) (Nat.le_of_ble_eq_true rfl) rfl rfl (Nat.le_of_ble_eq_true rfl) (fun r3 => ?_)
      refine zs_i2l dX12_implied_105 ?_
      refine zs_lmul dX12_implied_106 ?_
      refine zs_ladd dX12_implied_107 ?_
      refine zs_letJ (fun y4 => ?_)
      refine zs_lstore_n [(2, .long y4), (0, .ref (zz_a G 0)), (1, .int v1), (4, .int v4)] dX12_implied_108 rfl (Nat.le_of_ble_eq_true rfl) rfl ?_
      refine zs_iinc (fun y => [(4, .int y), (2, .long y4), (0, .ref (zz_a G 0)), (1, .int v1)]) dX12_implied_109 3 rfl ci_1 (Nat.le_of_ble_eq_true rfl) (fun _ => rfl) (fun x5 => ?_)
      refine zs_goto (tgt := 74) dX12_implied_112 (by decide) ?_
      refine zs_sub [2, 3, 1, 0] rfl ?_
      exact ih _ _ _ _
def f_X12_implied  (p1 : Int32) (m : zz_Mem) : Option (Int32 × zz_Mem) :=
  zz_letM (zz_setI m 0 0 (0 : Int32)) fun m1 =>
  zz_bndR (f_X12_isInput m1 p1.toInt64) fun r2 =>
  if r2 = 0 then (
  some ((-2 : Int32), m1))
  else (
  zz_ix p1 8 <|
  zz_ix p1 8 <|
  if (m1.1 7 p1.toNatClampNeg) < (m1.1 8 p1.toNatClampNeg) then (
  zz_bndR (f_X12_laysCurve m1) fun m3 =>
  zz_ix ((24 : Int32) + p1) 3531 <|
  if (m3.1 1 ((24 : Int32) + p1).toNatClampNeg) = (2 : Int32) then (
  f_X12_implied_74 zz_fuel p1 (0 : Int64) (0 : Int32) m3)
  else (
  zz_ix p1 8 <|
  zz_ix p1 8 <|
  zz_bndR (f_X12_rateOf m3 (m3.1 7 p1.toNatClampNeg) (m3.1 8 p1.toNatClampNeg)) fun r4 =>
  some (r4, m3)))
  else (
  some ((-5 : Int32), m1)))
theorem k_X12_implied {l : Launch} {G : zz_G} (hN : 26 ≤ zz_N G) : ∀ (p1 : Int32) (m : zz_Mem), zz_Con zz_shM l G mX12_implied 6 [.ref (zz_a G 0), .int p1] zz_vI zz_m2 (f_X12_implied p1 m) m := by
  intro p1 m
  refine zz_con (lv := [(0, .ref (zz_a G 0)), (1, .int p1)]) (by decide +kernel) (Nat.le_of_ble_eq_true rfl) rfl ?_
  unfold f_X12_implied
  refine zs_aload_n dX12_implied_0 rfl 0 rfl ?_
  refine zs_iconst (v := (0 : Int32)) dX12_implied_1 ci_0 ?_
  refine zs_putI fl_X12_1 dX12_implied_2 (shm_0 hN) rfl ⟨rfl, rfl⟩ (fun m1 => ?_)
  refine zs_aload_n dX12_implied_5 rfl 0 rfl ?_
  refine zs_iload_n dX12_implied_6 rfl 1 rfl ?_
  refine zs_i2l dX12_implied_7 ?_
  refine zs_cV_iR (rest := []) (k_X12_isInput hN _ _) dX12_implied_8 lv_X12_262 ok_X12_isInput (zz_rcv_o (shm_0 hN) rfl) (Nat.le_of_ble_eq_true rfl) rfl rfl (Nat.le_of_ble_eq_true rfl) (fun r2 => ?_)
  refine zs_if_ne (tgt := 17) dX12_implied_11 (by decide) ?_ ?_
  · refine zs_aload_n dX12_implied_17 rfl 0 rfl ?_
    refine zs_getR fl_X12_36 dX12_implied_18 (shm_0 hN) rfl ?_
    refine zs_iload_n dX12_implied_21 rfl 1 rfl ?_
    refine zs_ialdG dX12_implied_22 (shm_7 hN) ?_
    refine zs_aload_n dX12_implied_23 rfl 0 rfl ?_
    refine zs_getR fl_X12_39 dX12_implied_24 (shm_0 hN) rfl ?_
    refine zs_iload_n dX12_implied_27 rfl 1 rfl ?_
    refine zs_ialdG dX12_implied_28 (shm_8 hN) ?_
    refine zs_icmp_lt (tgt := 35) dX12_implied_29 (by decide) ?_ ?_
    · refine zs_aload_n dX12_implied_35 rfl 0 rfl ?_
      refine zs_cV_vW (rest := []) (k_X12_laysCurve hN  _) dX12_implied_36 lv_X12_312 ok_X12_laysCurve (zz_rcv_o (shm_0 hN) rfl) (Nat.le_of_ble_eq_true rfl) rfl rfl (Nat.le_of_ble_eq_true rfl) (fun m3 => ?_)
      refine zs_aload_n dX12_implied_39 rfl 0 rfl ?_
      refine zs_getR fl_X12_13 dX12_implied_40 (shm_0 hN) rfl ?_
      refine zs_bipush (v := (24 : Int32)) dX12_implied_43 cb_24 ?_
      refine zs_iload_n dX12_implied_45 rfl 1 rfl ?_
      refine zs_iadd dX12_implied_46 ?_
      refine zs_ialdG dX12_implied_47 (shm_1 hN) ?_
      refine zs_iconst (v := (2 : Int32)) dX12_implied_48 ci_2 ?_
      refine zs_icmp_eq (tgt := 69) dX12_implied_49 (by decide) ?_ ?_
      · refine zs_lconst (v := (0 : Int64)) dX12_implied_69 rfl ?_
        refine zs_lstore_n [(2, .long (0 : Int64)), (0, .ref (zz_a G 0)), (1, .int p1)] dX12_implied_70 rfl (Nat.le_of_ble_eq_true rfl) rfl ?_
        refine zs_iconst (v := (0 : Int32)) dX12_implied_71 ci_0 ?_
        refine zs_istore [(4, .int (0 : Int32)), (2, .long (0 : Int64)), (0, .ref (zz_a G 0)), (1, .int p1)] dX12_implied_72 (Nat.le_of_ble_eq_true rfl) rfl ?_
        refine zs_sub [2, 3, 1, 0] rfl ?_
        exact t_X12_implied_74 hN zz_fuel _ _ _ _
      · refine zs_aload_n dX12_implied_52 rfl 0 rfl ?_
        refine zs_aload_n dX12_implied_53 rfl 0 rfl ?_
        refine zs_getR fl_X12_36 dX12_implied_54 (shm_0 hN) rfl ?_
        refine zs_iload_n dX12_implied_57 rfl 1 rfl ?_
        refine zs_ialdG dX12_implied_58 (shm_7 hN) ?_
        refine zs_aload_n dX12_implied_59 rfl 0 rfl ?_
        refine zs_getR fl_X12_39 dX12_implied_60 (shm_0 hN) rfl ?_
        refine zs_iload_n dX12_implied_63 rfl 1 rfl ?_
        refine zs_ialdG dX12_implied_64 (shm_8 hN) ?_
        refine zs_cV_iR (rest := []) (k_X12_rateOf hN _ _ _) dX12_implied_65 lv_X12_394 ok_X12_rateOf (zz_rcv_o (shm_0 hN) rfl) (Nat.le_of_ble_eq_true rfl) rfl rfl (Nat.le_of_ble_eq_true rfl) (fun r4 => ?_)
        exact zs_iret dX12_implied_68 rfl rfl rfl
    · refine zs_bipush (v := (-5 : Int32)) dX12_implied_32 cb_m5 ?_
      exact zs_iret dX12_implied_34 rfl rfl rfl
  · refine zs_bipush (v := (-2 : Int32)) dX12_implied_14 cb_m2 ?_
    exact zs_iret dX12_implied_16 rfl rfl rfl
/-! X12_sound: PillarDeskModel.sound()I -/
theorem dX12_sound_0 : decode cX12_sound 0 = .ok (.aload_n 0, 1) := by decide +kernel
theorem dX12_sound_1 : decode cX12_sound 1 = .ok (.iconst 0, 1) := by decide +kernel
theorem dX12_sound_2 : decode cX12_sound 2 = .ok (.putfield 1, 3) := by decide +kernel
theorem dX12_sound_5 : decode cX12_sound 5 = .ok (.aload_n 0, 1) := by decide +kernel
theorem dX12_sound_6 : decode cX12_sound 6 = .ok (.invokevirtual 312, 3) := by decide +kernel
theorem dX12_sound_9 : decode cX12_sound 9 = .ok (.iconst 1, 1) := by decide +kernel
theorem dX12_sound_10 : decode cX12_sound 10 = .ok (.istore_n 1, 1) := by decide +kernel
theorem dX12_sound_11 : decode cX12_sound 11 = .ok (.iload_n 1, 1) := by decide +kernel
theorem dX12_sound_12 : decode cX12_sound 12 = .ok (.aload_n 0, 1) := by decide +kernel
theorem dX12_sound_13 : decode cX12_sound 13 = .ok (.getfield 272, 3) := by decide +kernel
theorem dX12_sound_16 : decode cX12_sound 16 = .ok (.if_icmp .ge 28, 3) := by decide +kernel
theorem dX12_sound_19 : decode cX12_sound 19 = .ok (.aload_n 0, 1) := by decide +kernel
theorem dX12_sound_20 : decode cX12_sound 20 = .ok (.getfield 57, 3) := by decide +kernel
theorem dX12_sound_23 : decode cX12_sound 23 = .ok (.iload_n 1, 1) := by decide +kernel
theorem dX12_sound_24 : decode cX12_sound 24 = .ok (.iaload, 1) := by decide +kernel
theorem dX12_sound_25 : decode cX12_sound 25 = .ok (.aload_n 0, 1) := by decide +kernel
theorem dX12_sound_26 : decode cX12_sound 26 = .ok (.getfield 57, 3) := by decide +kernel
theorem dX12_sound_29 : decode cX12_sound 29 = .ok (.iload_n 1, 1) := by decide +kernel
theorem dX12_sound_30 : decode cX12_sound 30 = .ok (.iconst 1, 1) := by decide +kernel
theorem dX12_sound_31 : decode cX12_sound 31 = .ok (.isub, 1) := by decide +kernel
theorem dX12_sound_32 : decode cX12_sound 32 = .ok (.iaload, 1) := by decide +kernel
theorem dX12_sound_33 : decode cX12_sound 33 = .ok (.if_icmp .le 5, 3) := by decide +kernel
theorem dX12_sound_36 : decode cX12_sound 36 = .ok (.iconst 0, 1) := by decide +kernel
theorem dX12_sound_37 : decode cX12_sound 37 = .ok (.ireturn, 1) := by decide +kernel
theorem dX12_sound_38 : decode cX12_sound 38 = .ok (.iinc 1 1, 3) := by decide +kernel
theorem dX12_sound_41 : decode cX12_sound 41 = .ok (.goto (-30), 3) := by decide +kernel
theorem dX12_sound_44 : decode cX12_sound 44 = .ok (.iconst 1, 1) := by decide +kernel
theorem dX12_sound_45 : decode cX12_sound 45 = .ok (.ireturn, 1) := by decide +kernel
def f_X12_sound_11   : Nat → Int32 → zz_Mem → Option (Int32 × zz_Mem)
  | 0, _, _ => none
  | n + 1, v1, m =>
  if (m.1 0 28) ≤ v1 then (
  some ((1 : Int32), m))
  else (
  zz_ix v1 9 <|
  zz_ix (v1 - (1 : Int32)) 9 <|
  if (m.1 14 v1.toNatClampNeg) ≤ (m.1 14 (v1 - (1 : Int32)).toNatClampNeg) then (
  zz_letI (v1 + (1 : Int32)) fun x1 =>
  f_X12_sound_11 n x1 m)
  else (
  some ((0 : Int32), m)))
theorem t_X12_sound_11 {l : Launch} {G : zz_G} (hN : 26 ≤ zz_N G)  : ∀ (n : Nat) (v1 : Int32) (m : zz_Mem), zz_Sim zz_shM l G mX12_sound 6 zz_vI zz_m2 (f_X12_sound_11 n v1 m) 11 [(0, .ref (zz_a G 0)), (1, .int v1)] [] m := by
  intro n
  induction n with
  | zero => intro _ _; exact zs_none
  | succ n ih =>
    intro v1 m
    rw [f_X12_sound_11]
    refine zs_iload_n dX12_sound_11 rfl 1 rfl ?_
    refine zs_aload_n dX12_sound_12 rfl 0 rfl ?_
    refine zs_getI fl_X12_272 dX12_sound_13 (shm_0 hN) rfl ?_
    refine zs_icmp_ge (tgt := 44) dX12_sound_16 (by decide) ?_ ?_
    · refine zs_iconst (v := (1 : Int32)) dX12_sound_44 ci_1 ?_
      exact zs_iret dX12_sound_45 rfl rfl rfl
    · refine zs_aload_n dX12_sound_19 rfl 0 rfl ?_
      refine zs_getR fl_X12_57 dX12_sound_20 (shm_0 hN) rfl ?_
      refine zs_iload_n dX12_sound_23 rfl 1 rfl ?_
      refine zs_ialdG dX12_sound_24 (shm_14 hN) ?_
      refine zs_aload_n dX12_sound_25 rfl 0 rfl ?_
      refine zs_getR fl_X12_57 dX12_sound_26 (shm_0 hN) rfl ?_
      refine zs_iload_n dX12_sound_29 rfl 1 rfl ?_
      refine zs_iconst (v := (1 : Int32)) dX12_sound_30 ci_1 ?_
      refine zs_isub dX12_sound_31 ?_
      refine zs_ialdG dX12_sound_32 (shm_14 hN) ?_
      refine zs_icmp_le (tgt := 38) dX12_sound_33 (by decide) ?_ ?_
      · refine zs_iinc (fun y => [(1, .int y), (0, .ref (zz_a G 0))]) dX12_sound_38 1 rfl ci_1 (Nat.le_of_ble_eq_true rfl) (fun _ => rfl) (fun x1 => ?_)
        refine zs_goto (tgt := 11) dX12_sound_41 (by decide) ?_
        refine zs_sub [1, 0] rfl ?_
        exact ih _ _
      · refine zs_iconst (v := (0 : Int32)) dX12_sound_36 ci_0 ?_
        exact zs_iret dX12_sound_37 rfl rfl rfl
def f_X12_sound   (m : zz_Mem) : Option (Int32 × zz_Mem) :=
  zz_letM (zz_setI m 0 0 (0 : Int32)) fun m1 =>
  zz_bndR (f_X12_laysCurve m1) fun m2 =>
  f_X12_sound_11 zz_fuel (1 : Int32) m2
theorem k_X12_sound {l : Launch} {G : zz_G} (hN : 26 ≤ zz_N G) : ∀ (m : zz_Mem), zz_Con zz_shM l G mX12_sound 6 [.ref (zz_a G 0)] zz_vI zz_m2 (f_X12_sound m) m := by
  intro m
  refine zz_con (lv := [(0, .ref (zz_a G 0))]) (by decide +kernel) (Nat.le_of_ble_eq_true rfl) rfl ?_
  unfold f_X12_sound
  refine zs_aload_n dX12_sound_0 rfl 0 rfl ?_
  refine zs_iconst (v := (0 : Int32)) dX12_sound_1 ci_0 ?_
  refine zs_putI fl_X12_1 dX12_sound_2 (shm_0 hN) rfl ⟨rfl, rfl⟩ (fun m1 => ?_)
  refine zs_aload_n dX12_sound_5 rfl 0 rfl ?_
  refine zs_cV_vW (rest := []) (k_X12_laysCurve hN  _) dX12_sound_6 lv_X12_312 ok_X12_laysCurve (zz_rcv_o (shm_0 hN) rfl) (Nat.le_of_ble_eq_true rfl) rfl rfl (Nat.le_of_ble_eq_true rfl) (fun m2 => ?_)
  refine zs_iconst (v := (1 : Int32)) dX12_sound_9 ci_1 ?_
  refine zs_istore_n [(1, .int (1 : Int32)), (0, .ref (zz_a G 0))] dX12_sound_10 rfl (Nat.le_of_ble_eq_true rfl) rfl ?_
  refine zs_sub [1, 0] rfl ?_
  exact t_X12_sound_11 hN zz_fuel _ _
/-! X12_falls: PillarDeskModel.falls(II)I -/
theorem dX12_falls_0 : decode cX12_falls 0 = .ok (.aload_n 0, 1) := by decide +kernel
theorem dX12_falls_1 : decode cX12_falls 1 = .ok (.iconst 0, 1) := by decide +kernel
theorem dX12_falls_2 : decode cX12_falls 2 = .ok (.putfield 1, 3) := by decide +kernel
theorem dX12_falls_5 : decode cX12_falls 5 = .ok (.aload_n 0, 1) := by decide +kernel
theorem dX12_falls_6 : decode cX12_falls 6 = .ok (.iload_n 1, 1) := by decide +kernel
theorem dX12_falls_7 : decode cX12_falls 7 = .ok (.i2l, 1) := by decide +kernel
theorem dX12_falls_8 : decode cX12_falls 8 = .ok (.invokevirtual 262, 3) := by decide +kernel
theorem dX12_falls_11 : decode cX12_falls 11 = .ok (.ifCond .ne 6, 3) := by decide +kernel
theorem dX12_falls_14 : decode cX12_falls 14 = .ok (.bipush (-2), 2) := by decide +kernel
theorem dX12_falls_16 : decode cX12_falls 16 = .ok (.ireturn, 1) := by decide +kernel
theorem dX12_falls_17 : decode cX12_falls 17 = .ok (.iload_n 2, 1) := by decide +kernel
theorem dX12_falls_18 : decode cX12_falls 18 = .ok (.sipush 9999, 3) := by decide +kernel
theorem dX12_falls_21 : decode cX12_falls 21 = .ok (.invokestatic 254, 3) := by decide +kernel
theorem dX12_falls_24 : decode cX12_falls 24 = .ok (.ifCond .ne 6, 3) := by decide +kernel
theorem dX12_falls_27 : decode cX12_falls 27 = .ok (.bipush (-3), 2) := by decide +kernel
theorem dX12_falls_29 : decode cX12_falls 29 = .ok (.ireturn, 1) := by decide +kernel
theorem dX12_falls_30 : decode cX12_falls 30 = .ok (.aload_n 0, 1) := by decide +kernel
theorem dX12_falls_31 : decode cX12_falls 31 = .ok (.invokevirtual 312, 3) := by decide +kernel
theorem dX12_falls_34 : decode cX12_falls 34 = .ok (.aload_n 0, 1) := by decide +kernel
theorem dX12_falls_35 : decode cX12_falls 35 = .ok (.iload_n 2, 1) := by decide +kernel
theorem dX12_falls_36 : decode cX12_falls 36 = .ok (.invokevirtual 290, 3) := by decide +kernel
theorem dX12_falls_39 : decode cX12_falls 39 = .ok (.istore_n 3, 1) := by decide +kernel
theorem dX12_falls_40 : decode cX12_falls 40 = .ok (.aload_n 0, 1) := by decide +kernel
theorem dX12_falls_41 : decode cX12_falls 41 = .ok (.iload_n 1, 1) := by decide +kernel
theorem dX12_falls_42 : decode cX12_falls 42 = .ok (.iconst 1, 1) := by decide +kernel
theorem dX12_falls_43 : decode cX12_falls 43 = .ok (.invokevirtual 397, 3) := by decide +kernel
theorem dX12_falls_46 : decode cX12_falls 46 = .ok (.iload_n 3, 1) := by decide +kernel
theorem dX12_falls_47 : decode cX12_falls 47 = .ok (.aload_n 0, 1) := by decide +kernel
theorem dX12_falls_48 : decode cX12_falls 48 = .ok (.iload_n 2, 1) := by decide +kernel
theorem dX12_falls_49 : decode cX12_falls 49 = .ok (.invokevirtual 290, 3) := by decide +kernel
theorem dX12_falls_52 : decode cX12_falls 52 = .ok (.isub, 1) := by decide +kernel
theorem dX12_falls_53 : decode cX12_falls 53 = .ok (.ireturn, 1) := by decide +kernel
def f_X12_falls  (p1 : Int32) (p2 : Int32) (m : zz_Mem) : Option (Int32 × zz_Mem) :=
  zz_letM (zz_setI m 0 0 (0 : Int32)) fun m1 =>
  zz_bndR (f_X12_isInput m1 p1.toInt64) fun r2 =>
  if r2 = 0 then (
  some ((-2 : Int32), m1))
  else (
  zz_bndR (f_X12_isDay p2 (9999 : Int32)) fun r3 =>
  if r3 = 0 then (
  some ((-3 : Int32), m1))
  else (
  zz_bndR (f_X12_laysCurve m1) fun m4 =>
  zz_bndR (f_X12_factorAt m4 p2) fun r5 =>
  zz_bndR (f_X12_laysWith p1 (1 : Int32) m4) fun m6 =>
  zz_bndR (f_X12_factorAt m6 p2) fun r7 =>
  some (r5 - r7, m6)))
theorem k_X12_falls {l : Launch} {G : zz_G} (hN : 26 ≤ zz_N G) : ∀ (p1 : Int32) (p2 : Int32) (m : zz_Mem), zz_Con zz_shM l G mX12_falls 6 [.ref (zz_a G 0), .int p1, .int p2] zz_vI zz_m2 (f_X12_falls p1 p2 m) m := by
  intro p1 p2 m
  refine zz_con (lv := [(0, .ref (zz_a G 0)), (1, .int p1), (2, .int p2)]) (by decide +kernel) (Nat.le_of_ble_eq_true rfl) rfl ?_
  unfold f_X12_falls
  refine zs_aload_n dX12_falls_0 rfl 0 rfl ?_
  refine zs_iconst (v := (0 : Int32)) dX12_falls_1 ci_0 ?_
  refine zs_putI fl_X12_1 dX12_falls_2 (shm_0 hN) rfl ⟨rfl, rfl⟩ (fun m1 => ?_)
  refine zs_aload_n dX12_falls_5 rfl 0 rfl ?_
  refine zs_iload_n dX12_falls_6 rfl 1 rfl ?_
  refine zs_i2l dX12_falls_7 ?_
  refine zs_cV_iR (rest := []) (k_X12_isInput hN _ _) dX12_falls_8 lv_X12_262 ok_X12_isInput (zz_rcv_o (shm_0 hN) rfl) (Nat.le_of_ble_eq_true rfl) rfl rfl (Nat.le_of_ble_eq_true rfl) (fun r2 => ?_)
  refine zs_if_ne (tgt := 17) dX12_falls_11 (by decide) ?_ ?_
  · refine zs_iload_n dX12_falls_17 rfl 2 rfl ?_
    refine zs_sipush (v := (9999 : Int32)) dX12_falls_18 cs_9999 ?_
    refine zs_cS_iR (rest := []) (k_X12_isDay hN _ _ _) dX12_falls_21 ls_X12_254 ok_X12_isDay (Nat.le_of_ble_eq_true rfl) rfl rfl (Nat.le_of_ble_eq_true rfl) (fun r3 => ?_)
    refine zs_if_ne (tgt := 30) dX12_falls_24 (by decide) ?_ ?_
    · refine zs_aload_n dX12_falls_30 rfl 0 rfl ?_
      refine zs_cV_vW (rest := []) (k_X12_laysCurve hN  _) dX12_falls_31 lv_X12_312 ok_X12_laysCurve (zz_rcv_o (shm_0 hN) rfl) (Nat.le_of_ble_eq_true rfl) rfl rfl (Nat.le_of_ble_eq_true rfl) (fun m4 => ?_)
      refine zs_aload_n dX12_falls_34 rfl 0 rfl ?_
      refine zs_iload_n dX12_falls_35 rfl 2 rfl ?_
      refine zs_cV_iR (rest := []) (k_X12_factorAt hN _ _) dX12_falls_36 lv_X12_290 ok_X12_factorAt (zz_rcv_o (shm_0 hN) rfl) (Nat.le_of_ble_eq_true rfl) rfl rfl (Nat.le_of_ble_eq_true rfl) (fun r5 => ?_)
      refine zs_istore_n [(3, .int r5), (0, .ref (zz_a G 0)), (1, .int p1), (2, .int p2)] dX12_falls_39 rfl (Nat.le_of_ble_eq_true rfl) rfl ?_
      refine zs_aload_n dX12_falls_40 rfl 1 rfl ?_
      refine zs_iload_n dX12_falls_41 rfl 2 rfl ?_
      refine zs_iconst (v := (1 : Int32)) dX12_falls_42 ci_1 ?_
      refine zs_cV_vW (rest := []) (k_X12_laysWith hN _ _ _) dX12_falls_43 lv_X12_397 ok_X12_laysWith (zz_rcv_o (shm_0 hN) rfl) (Nat.le_of_ble_eq_true rfl) rfl rfl (Nat.le_of_ble_eq_true rfl) (fun m6 => ?_)
      refine zs_iload_n dX12_falls_46 rfl 0 rfl ?_
      refine zs_aload_n dX12_falls_47 rfl 1 rfl ?_
      refine zs_iload_n dX12_falls_48 rfl 3 rfl ?_
      refine zs_cV_iR (rest := [.int r5]) (k_X12_factorAt hN _ _) dX12_falls_49 lv_X12_290 ok_X12_factorAt (zz_rcv_o (shm_0 hN) rfl) (Nat.le_of_ble_eq_true rfl) rfl rfl (Nat.le_of_ble_eq_true rfl) (fun r7 => ?_)
      refine zs_isub dX12_falls_52 ?_
      exact zs_iret dX12_falls_53 rfl rfl rfl
    · refine zs_bipush (v := (-3 : Int32)) dX12_falls_27 cb_m3 ?_
      exact zs_iret dX12_falls_29 rfl rfl rfl
  · refine zs_bipush (v := (-2 : Int32)) dX12_falls_14 cb_m2 ?_
    exact zs_iret dX12_falls_16 rfl rfl rfl
