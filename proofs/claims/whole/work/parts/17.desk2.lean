/-! ===== models and walks: 17.desk2 ===== -/
/-! X11_worth: PillarDesk.worth()J -/
theorem dX11_worth_0 : decode cX11_worth 0 = .ok (.aload_n 0, 1) := by decide +kernel
theorem dX11_worth_1 : decode cX11_worth 1 = .ok (.invokevirtual 166, 3) := by decide +kernel
theorem dX11_worth_4 : decode cX11_worth 4 = .ok (.invokevirtual 330, 3) := by decide +kernel
theorem dX11_worth_7 : decode cX11_worth 7 = .ok (.lreturn, 1) := by decide +kernel
def f_X11_worth   (m : zz_Mem) : Option (Int64 × zz_Mem) :=
  zz_bndR (f_X11_solvedNow m) fun m1 =>
  zz_bndR (f_X1_bookWorth 83 m1) fun r2 =>
  some (r2, m1)
theorem k_X11_worth {l : Launch} {G : zz_G} (hN : 107 ≤ zz_N G) : ∀ (m : zz_Mem), zz_Con zz_sh l G mX11_worth 6 [.ref (zz_a G 0)] zz_vJ zz_m2 (f_X11_worth m) m := by
  intro m
  refine zz_con (lv := [(0, .ref (zz_a G 0))]) (by decide +kernel) (Nat.le_of_ble_eq_true rfl) rfl ?_
  unfold f_X11_worth
  refine zs_aload_n dX11_worth_0 rfl 0 rfl ?_
  refine zs_cV_aW (rest := []) (k_X11_solvedNow hN  _) dX11_worth_1 lv_X11_166 ok_X11_solvedNow (zz_rcv_o (sh_0 hN) rfl) (Nat.le_of_ble_eq_true rfl) rfl rfl (Nat.le_of_ble_eq_true rfl) (fun m1 => ?_)
  refine zs_cV_jR (rest := []) (k_X1_bookWorth hN ((isCurve_83 hN))  _) dX11_worth_4 lv_X11_330 ok_X1_bookWorth (zz_rcv_o (sh_83 hN) rfl) (Nat.le_of_ble_eq_true rfl) rfl rfl (Nat.le_of_ble_eq_true rfl) (fun r2 => ?_)
  exact zs_lret dX11_worth_7 rfl rfl rfl
/-! X11_move: PillarDesk.move(I)J -/
theorem dX11_move_0 : decode cX11_move 0 = .ok (.aload_n 0, 1) := by decide +kernel
theorem dX11_move_1 : decode cX11_move 1 = .ok (.getfield 20, 3) := by decide +kernel
theorem dX11_move_4 : decode cX11_move 4 = .ok (.iload_n 1, 1) := by decide +kernel
theorem dX11_move_5 : decode cX11_move 5 = .ok (.invokevirtual 141, 3) := by decide +kernel
theorem dX11_move_8 : decode cX11_move 8 = .ok (.ifCond .ne 7, 3) := by decide +kernel
theorem dX11_move_11 : decode cX11_move 11 = .ok (.ldc2_w 182, 3) := by decide +kernel
theorem dX11_move_14 : decode cX11_move 14 = .ok (.lreturn, 1) := by decide +kernel
theorem dX11_move_15 : decode cX11_move 15 = .ok (.aload_n 0, 1) := by decide +kernel
theorem dX11_move_16 : decode cX11_move 16 = .ok (.iload_n 1, 1) := by decide +kernel
theorem dX11_move_17 : decode cX11_move 17 = .ok (.iconst 1, 1) := by decide +kernel
theorem dX11_move_18 : decode cX11_move 18 = .ok (.invokevirtual 326, 3) := by decide +kernel
theorem dX11_move_21 : decode cX11_move 21 = .ok (.invokevirtual 330, 3) := by decide +kernel
theorem dX11_move_24 : decode cX11_move 24 = .ok (.aload_n 0, 1) := by decide +kernel
theorem dX11_move_25 : decode cX11_move 25 = .ok (.getfield 75, 3) := by decide +kernel
theorem dX11_move_28 : decode cX11_move 28 = .ok (.invokevirtual 330, 3) := by decide +kernel
theorem dX11_move_31 : decode cX11_move 31 = .ok (.lsub, 1) := by decide +kernel
theorem dX11_move_32 : decode cX11_move 32 = .ok (.lreturn, 1) := by decide +kernel
def f_X11_move  (p1 : Int32) (m : zz_Mem) : Option (Int64 × zz_Mem) :=
  zz_bndR (f_X6_hasInput m p1) fun r1 =>
  if r1 = 0 then (
  some ((-9000000000000000002 : Int64), m))
  else (
  zz_bndR (f_X11_bumpedTrial p1 (1 : Int32) m) fun m2 =>
  zz_bndR (f_X1_bookWorth 88 m2) fun r3 =>
  zz_bndR (f_X1_bookWorth 83 m2) fun r4 =>
  some (r3 - r4, m2))
theorem k_X11_move {l : Launch} {G : zz_G} (hN : 107 ≤ zz_N G) : ∀ (p1 : Int32) (m : zz_Mem), zz_Con zz_sh l G mX11_move 7 [.ref (zz_a G 0), .int p1] zz_vJ zz_m2 (f_X11_move p1 m) m := by
  intro p1 m
  refine zz_con (lv := [(0, .ref (zz_a G 0)), (1, .int p1)]) (by decide +kernel) (Nat.le_of_ble_eq_true rfl) rfl ?_
  unfold f_X11_move
  refine zs_aload_n dX11_move_0 rfl 0 rfl ?_
  refine zs_getR fl_X11_20 dX11_move_1 (sh_0 hN) rfl ?_
  refine zs_iload_n dX11_move_4 rfl 1 rfl ?_
  refine zs_cV_iR (rest := []) (k_X6_hasInput hN _ _) dX11_move_5 lv_X11_141 ok_X6_hasInput (zz_rcv_o (sh_2 hN) rfl) (Nat.le_of_ble_eq_true rfl) rfl rfl (Nat.le_of_ble_eq_true rfl) (fun r1 => ?_)
  refine zs_if_ne (tgt := 15) dX11_move_8 (by decide) ?_ ?_
  · refine zs_aload_n dX11_move_15 rfl 0 rfl ?_
    refine zs_iload_n dX11_move_16 rfl 1 rfl ?_
    refine zs_iconst (v := (1 : Int32)) dX11_move_17 ci_1 ?_
    refine zs_cV_aW (rest := []) (k_X11_bumpedTrial hN _ _ _) dX11_move_18 lv_X11_326 ok_X11_bumpedTrial (zz_rcv_o (sh_0 hN) rfl) (Nat.le_of_ble_eq_true rfl) rfl rfl (Nat.le_of_ble_eq_true rfl) (fun m2 => ?_)
    refine zs_cV_jR (rest := []) (k_X1_bookWorth hN ((isCurve_88 hN))  _) dX11_move_21 lv_X11_330 ok_X1_bookWorth (zz_rcv_o (sh_88 hN) rfl) (Nat.le_of_ble_eq_true rfl) rfl rfl (Nat.le_of_ble_eq_true rfl) (fun r3 => ?_)
    refine zs_aload_n dX11_move_24 rfl 0 rfl ?_
    refine zs_getR fl_X11_75 dX11_move_25 (sh_0 hN) rfl ?_
    refine zs_cV_jR (rest := [.long r3]) (k_X1_bookWorth hN ((isCurve_83 hN))  _) dX11_move_28 lv_X11_330 ok_X1_bookWorth (zz_rcv_o (sh_83 hN) rfl) (Nat.le_of_ble_eq_true rfl) rfl rfl (Nat.le_of_ble_eq_true rfl) (fun r4 => ?_)
    refine zs_lsub dX11_move_31 ?_
    exact zs_lret dX11_move_32 rfl rfl rfl
  · refine zs_ldc2 (v := (-9000000000000000002 : Int64)) dX11_move_11 kc_X11_182 ?_
    exact zs_lret dX11_move_14 rfl rfl rfl
/-! X11_bumped: PillarDesk.bumped(II)J -/
theorem dX11_bumped_0 : decode cX11_bumped 0 = .ok (.aload_n 0, 1) := by decide +kernel
theorem dX11_bumped_1 : decode cX11_bumped 1 = .ok (.getfield 20, 3) := by decide +kernel
theorem dX11_bumped_4 : decode cX11_bumped 4 = .ok (.iload_n 1, 1) := by decide +kernel
theorem dX11_bumped_5 : decode cX11_bumped 5 = .ok (.invokevirtual 141, 3) := by decide +kernel
theorem dX11_bumped_8 : decode cX11_bumped 8 = .ok (.ifCond .ne 7, 3) := by decide +kernel
theorem dX11_bumped_11 : decode cX11_bumped 11 = .ok (.ldc2_w 182, 3) := by decide +kernel
theorem dX11_bumped_14 : decode cX11_bumped 14 = .ok (.lreturn, 1) := by decide +kernel
theorem dX11_bumped_15 : decode cX11_bumped 15 = .ok (.iload_n 2, 1) := by decide +kernel
theorem dX11_bumped_16 : decode cX11_bumped 16 = .ok (.sipush (-999), 3) := by decide +kernel
theorem dX11_bumped_19 : decode cX11_bumped 19 = .ok (.if_icmp .lt 10, 3) := by decide +kernel
theorem dX11_bumped_22 : decode cX11_bumped 22 = .ok (.iload_n 2, 1) := by decide +kernel
theorem dX11_bumped_23 : decode cX11_bumped 23 = .ok (.sipush 999, 3) := by decide +kernel
theorem dX11_bumped_26 : decode cX11_bumped 26 = .ok (.if_icmp .le 7, 3) := by decide +kernel
theorem dX11_bumped_29 : decode cX11_bumped 29 = .ok (.ldc2_w 334, 3) := by decide +kernel
theorem dX11_bumped_32 : decode cX11_bumped 32 = .ok (.lreturn, 1) := by decide +kernel
theorem dX11_bumped_33 : decode cX11_bumped 33 = .ok (.aload_n 0, 1) := by decide +kernel
theorem dX11_bumped_34 : decode cX11_bumped 34 = .ok (.iload_n 1, 1) := by decide +kernel
theorem dX11_bumped_35 : decode cX11_bumped 35 = .ok (.iload_n 2, 1) := by decide +kernel
theorem dX11_bumped_36 : decode cX11_bumped 36 = .ok (.invokevirtual 326, 3) := by decide +kernel
theorem dX11_bumped_39 : decode cX11_bumped 39 = .ok (.invokevirtual 330, 3) := by decide +kernel
theorem dX11_bumped_42 : decode cX11_bumped 42 = .ok (.lreturn, 1) := by decide +kernel
def f_X11_bumped  (p1 : Int32) (p2 : Int32) (m : zz_Mem) : Option (Int64 × zz_Mem) :=
  zz_bndR (f_X6_hasInput m p1) fun r1 =>
  if r1 = 0 then (
  some ((-9000000000000000002 : Int64), m))
  else (
  if p2 < (-999 : Int32) then (
  some ((-9000000000000000003 : Int64), m))
  else (
  if p2 ≤ (999 : Int32) then (
  zz_bndR (f_X11_bumpedTrial p1 p2 m) fun m2 =>
  zz_bndR (f_X1_bookWorth 88 m2) fun r3 =>
  some (r3, m2))
  else (
  some ((-9000000000000000003 : Int64), m))))
theorem k_X11_bumped {l : Launch} {G : zz_G} (hN : 107 ≤ zz_N G) : ∀ (p1 : Int32) (p2 : Int32) (m : zz_Mem), zz_Con zz_sh l G mX11_bumped 7 [.ref (zz_a G 0), .int p1, .int p2] zz_vJ zz_m2 (f_X11_bumped p1 p2 m) m := by
  intro p1 p2 m
  refine zz_con (lv := [(0, .ref (zz_a G 0)), (1, .int p1), (2, .int p2)]) (by decide +kernel) (Nat.le_of_ble_eq_true rfl) rfl ?_
  unfold f_X11_bumped
  refine zs_aload_n dX11_bumped_0 rfl 0 rfl ?_
  refine zs_getR fl_X11_20 dX11_bumped_1 (sh_0 hN) rfl ?_
  refine zs_iload_n dX11_bumped_4 rfl 1 rfl ?_
  refine zs_cV_iR (rest := []) (k_X6_hasInput hN _ _) dX11_bumped_5 lv_X11_141 ok_X6_hasInput (zz_rcv_o (sh_2 hN) rfl) (Nat.le_of_ble_eq_true rfl) rfl rfl (Nat.le_of_ble_eq_true rfl) (fun r1 => ?_)
  refine zs_if_ne (tgt := 15) dX11_bumped_8 (by decide) ?_ ?_
  · refine zs_iload_n dX11_bumped_15 rfl 2 rfl ?_
    refine zs_sipush (v := (-999 : Int32)) dX11_bumped_16 cs_m999 ?_
    refine zs_icmp_lt (tgt := 29) dX11_bumped_19 (by decide) ?_ ?_
    · refine zs_ldc2 (v := (-9000000000000000003 : Int64)) dX11_bumped_29 kc_X11_334 ?_
      exact zs_lret dX11_bumped_32 rfl rfl rfl
    · refine zs_iload_n dX11_bumped_22 rfl 2 rfl ?_
      refine zs_sipush (v := (999 : Int32)) dX11_bumped_23 cs_999 ?_
      refine zs_icmp_le (tgt := 33) dX11_bumped_26 (by decide) ?_ ?_
      · refine zs_aload_n dX11_bumped_33 rfl 0 rfl ?_
        refine zs_iload_n dX11_bumped_34 rfl 1 rfl ?_
        refine zs_iload_n dX11_bumped_35 rfl 2 rfl ?_
        refine zs_cV_aW (rest := []) (k_X11_bumpedTrial hN _ _ _) dX11_bumped_36 lv_X11_326 ok_X11_bumpedTrial (zz_rcv_o (sh_0 hN) rfl) (Nat.le_of_ble_eq_true rfl) rfl rfl (Nat.le_of_ble_eq_true rfl) (fun m2 => ?_)
        refine zs_cV_jR (rest := []) (k_X1_bookWorth hN ((isCurve_88 hN))  _) dX11_bumped_39 lv_X11_330 ok_X1_bookWorth (zz_rcv_o (sh_88 hN) rfl) (Nat.le_of_ble_eq_true rfl) rfl rfl (Nat.le_of_ble_eq_true rfl) (fun r3 => ?_)
        exact zs_lret dX11_bumped_42 rfl rfl rfl
      · refine zs_ldc2 (v := (-9000000000000000003 : Int64)) dX11_bumped_29 kc_X11_334 ?_
        exact zs_lret dX11_bumped_32 rfl rfl rfl
  · refine zs_ldc2 (v := (-9000000000000000002 : Int64)) dX11_bumped_11 kc_X11_182 ?_
    exact zs_lret dX11_bumped_14 rfl rfl rfl
/-! X11_mover: PillarDesk.mover()I -/
theorem dX11_mover_0 : decode cX11_mover 0 = .ok (.iconst (-1), 1) := by decide +kernel
theorem dX11_mover_1 : decode cX11_mover 1 = .ok (.istore_n 1, 1) := by decide +kernel
theorem dX11_mover_2 : decode cX11_mover 2 = .ok (.ldc2_w 336, 3) := by decide +kernel
theorem dX11_mover_5 : decode cX11_mover 5 = .ok (.lstore_n 2, 1) := by decide +kernel
theorem dX11_mover_6 : decode cX11_mover 6 = .ok (.iconst 0, 1) := by decide +kernel
theorem dX11_mover_7 : decode cX11_mover 7 = .ok (.istore 4, 2) := by decide +kernel
theorem dX11_mover_9 : decode cX11_mover 9 = .ok (.iload 4, 2) := by decide +kernel
theorem dX11_mover_11 : decode cX11_mover 11 = .ok (.aload_n 0, 1) := by decide +kernel
theorem dX11_mover_12 : decode cX11_mover 12 = .ok (.getfield 20, 3) := by decide +kernel
theorem dX11_mover_15 : decode cX11_mover 15 = .ok (.getfield 338, 3) := by decide +kernel
theorem dX11_mover_18 : decode cX11_mover 18 = .ok (.if_icmp .ge 45, 3) := by decide +kernel
theorem dX11_mover_21 : decode cX11_mover 21 = .ok (.aload_n 0, 1) := by decide +kernel
theorem dX11_mover_22 : decode cX11_mover 22 = .ok (.iload 4, 2) := by decide +kernel
theorem dX11_mover_24 : decode cX11_mover 24 = .ok (.iconst 1, 1) := by decide +kernel
theorem dX11_mover_25 : decode cX11_mover 25 = .ok (.invokevirtual 326, 3) := by decide +kernel
theorem dX11_mover_28 : decode cX11_mover 28 = .ok (.invokevirtual 330, 3) := by decide +kernel
theorem dX11_mover_31 : decode cX11_mover 31 = .ok (.aload_n 0, 1) := by decide +kernel
theorem dX11_mover_32 : decode cX11_mover 32 = .ok (.getfield 75, 3) := by decide +kernel
theorem dX11_mover_35 : decode cX11_mover 35 = .ok (.invokevirtual 330, 3) := by decide +kernel
theorem dX11_mover_38 : decode cX11_mover 38 = .ok (.lsub, 1) := by decide +kernel
theorem dX11_mover_39 : decode cX11_mover 39 = .ok (.invokestatic 341, 3) := by decide +kernel
theorem dX11_mover_42 : decode cX11_mover 42 = .ok (.lstore 5, 2) := by decide +kernel
theorem dX11_mover_44 : decode cX11_mover 44 = .ok (.lload 5, 2) := by decide +kernel
theorem dX11_mover_46 : decode cX11_mover 46 = .ok (.lload_n 2, 1) := by decide +kernel
theorem dX11_mover_47 : decode cX11_mover 47 = .ok (.lcmp, 1) := by decide +kernel
theorem dX11_mover_48 : decode cX11_mover 48 = .ok (.ifCond .le 9, 3) := by decide +kernel
theorem dX11_mover_51 : decode cX11_mover 51 = .ok (.lload 5, 2) := by decide +kernel
theorem dX11_mover_53 : decode cX11_mover 53 = .ok (.lstore_n 2, 1) := by decide +kernel
theorem dX11_mover_54 : decode cX11_mover 54 = .ok (.iload 4, 2) := by decide +kernel
theorem dX11_mover_56 : decode cX11_mover 56 = .ok (.istore_n 1, 1) := by decide +kernel
theorem dX11_mover_57 : decode cX11_mover 57 = .ok (.iinc 4 1, 3) := by decide +kernel
theorem dX11_mover_60 : decode cX11_mover 60 = .ok (.goto (-51), 3) := by decide +kernel
theorem dX11_mover_63 : decode cX11_mover 63 = .ok (.iload_n 1, 1) := by decide +kernel
theorem dX11_mover_64 : decode cX11_mover 64 = .ok (.ireturn, 1) := by decide +kernel
def f_X11_mover_9   : Nat → Int32 → Int64 → Int32 → zz_Mem → Option (Int32 × zz_Mem)
  | 0, _, _, _, _ => none
  | n + 1, v1, v2, v4, m =>
  if (m.1 2 5) ≤ v4 then (
  some (v1, m))
  else (
  zz_bndR (f_X11_bumpedTrial v4 (1 : Int32) m) fun m1 =>
  zz_bndR (f_X1_bookWorth 88 m1) fun r2 =>
  zz_bndR (f_X1_bookWorth 83 m1) fun r3 =>
  zz_bndR (f_J9_abs_067f4 (r2 - r3)) fun r4 =>
  if r4 ≤ v2 then (
  zz_letI (v4 + (1 : Int32)) fun x5 =>
  f_X11_mover_9 n v1 v2 x5 m1)
  else (
  zz_letI (v4 + (1 : Int32)) fun x6 =>
  f_X11_mover_9 n v4 r4 x6 m1))
theorem t_X11_mover_9 {l : Launch} {G : zz_G} (hN : 107 ≤ zz_N G)  : ∀ (n : Nat) (v1 : Int32) (v2 : Int64) (v4 : Int32) (m : zz_Mem), zz_Sim zz_sh l G mX11_mover 7 zz_vI zz_m2 (f_X11_mover_9 n v1 v2 v4 m) 9 [(0, .ref (zz_a G 0)), (1, .int v1), (2, .long v2), (4, .int v4)] [] m := by
  intro n
  induction n with
  | zero => intro _ _ _ _; exact zs_none
  | succ n ih =>
    intro v1 v2 v4 m
    rw [f_X11_mover_9]
    refine zs_iload dX11_mover_9 3 rfl ?_
    refine zs_aload_n dX11_mover_11 rfl 0 rfl ?_
    refine zs_getR fl_X11_20 dX11_mover_12 (sh_0 hN) rfl ?_
    refine zs_getI fl_X11_338 dX11_mover_15 (sh_2 hN) rfl ?_
    refine zs_icmp_ge (tgt := 63) dX11_mover_18 (by decide) ?_ ?_
    · refine zs_iload_n dX11_mover_63 rfl 1 rfl ?_
      exact zs_iret dX11_mover_64 rfl rfl rfl
    · refine zs_aload_n dX11_mover_21 rfl 0 rfl ?_
      refine zs_iload dX11_mover_22 3 rfl ?_
      refine zs_iconst (v := (1 : Int32)) dX11_mover_24 ci_1 ?_
      refine zs_cV_aW (rest := []) (k_X11_bumpedTrial hN _ _ _) dX11_mover_25 lv_X11_326 ok_X11_bumpedTrial (zz_rcv_o (sh_0 hN) rfl) (Nat.le_of_ble_eq_true rfl) rfl rfl (Nat.le_of_ble_eq_true rfl) (fun m1 => ?_)
      refine zs_cV_jR (rest := []) (k_X1_bookWorth hN ((isCurve_88 hN))  _) dX11_mover_28 lv_X11_330 ok_X1_bookWorth (zz_rcv_o (sh_88 hN) rfl) (Nat.le_of_ble_eq_true rfl) rfl rfl (Nat.le_of_ble_eq_true rfl) (fun r2 => ?_)
      refine zs_aload_n dX11_mover_31 rfl 0 rfl ?_
      refine zs_getR fl_X11_75 dX11_mover_32 (sh_0 hN) rfl ?_
      refine zs_cV_jR (rest := [.long r2]) (k_X1_bookWorth hN ((isCurve_83 hN))  _) dX11_mover_35 lv_X11_330 ok_X1_bookWorth (zz_rcv_o (sh_83 hN) rfl) (Nat.le_of_ble_eq_true rfl) rfl rfl (Nat.le_of_ble_eq_true rfl) (fun r3 => ?_)
      refine zs_lsub dX11_mover_38 ?_
      refine zs_cS_jR (rest := []) (k_J9_abs_067f4 hN _ _) dX11_mover_39 ls_X11_341 ok_J9_abs_067f4 (Nat.le_of_ble_eq_true rfl) rfl rfl (Nat.le_of_ble_eq_true rfl) (fun r4 => ?_)
      refine zs_lstore [(5, .long r4), (0, .ref (zz_a G 0)), (1, .int v1), (2, .long v2), (4, .int v4)] dX11_mover_42 (Nat.le_of_ble_eq_true rfl) rfl ?_
      refine zs_lload dX11_mover_44 0 rfl ?_
      refine zs_lload_n dX11_mover_46 rfl 3 rfl ?_
      refine zs_lcmp_le (tgt := 57) dX11_mover_47 dX11_mover_48 (by decide) ?_ ?_
      · refine zs_iinc (fun y => [(4, .int y), (5, .long r4), (0, .ref (zz_a G 0)), (1, .int v1), (2, .long v2)]) dX11_mover_57 4 rfl ci_1 (Nat.le_of_ble_eq_true rfl) (fun _ => rfl) (fun x5 => ?_)
        refine zs_goto (tgt := 9) dX11_mover_60 (by decide) ?_
        refine zs_sub [2, 3, 4, 0] rfl ?_
        exact ih _ _ _ _
      · refine zs_lload dX11_mover_51 0 rfl ?_
        refine zs_lstore_n [(2, .long r4), (5, .long r4), (0, .ref (zz_a G 0)), (1, .int v1), (4, .int v4)] dX11_mover_53 rfl (Nat.le_of_ble_eq_true rfl) rfl ?_
        refine zs_iload dX11_mover_54 4 rfl ?_
        refine zs_istore_n [(1, .int v4), (2, .long r4), (5, .long r4), (0, .ref (zz_a G 0)), (4, .int v4)] dX11_mover_56 rfl (Nat.le_of_ble_eq_true rfl) rfl ?_
        refine zs_iinc (fun y => [(4, .int y), (1, .int v4), (2, .long r4), (5, .long r4), (0, .ref (zz_a G 0))]) dX11_mover_57 4 rfl ci_1 (Nat.le_of_ble_eq_true rfl) (fun _ => rfl) (fun x6 => ?_)
        refine zs_goto (tgt := 9) dX11_mover_60 (by decide) ?_
        refine zs_sub [4, 1, 2, 0] rfl ?_
        exact ih _ _ _ _
def f_X11_mover   (m : zz_Mem) : Option (Int32 × zz_Mem) :=
  f_X11_mover_9 zz_fuel (-1 : Int32) (-1 : Int64) (0 : Int32) m
theorem k_X11_mover {l : Launch} {G : zz_G} (hN : 107 ≤ zz_N G) : ∀ (m : zz_Mem), zz_Con zz_sh l G mX11_mover 7 [.ref (zz_a G 0)] zz_vI zz_m2 (f_X11_mover m) m := by
  intro m
  refine zz_con (lv := [(0, .ref (zz_a G 0))]) (by decide +kernel) (Nat.le_of_ble_eq_true rfl) rfl ?_
  unfold f_X11_mover
  refine zs_iconst (v := (-1 : Int32)) dX11_mover_0 ci_m1 ?_
  refine zs_istore_n [(1, .int (-1 : Int32)), (0, .ref (zz_a G 0))] dX11_mover_1 rfl (Nat.le_of_ble_eq_true rfl) rfl ?_
  refine zs_ldc2 (v := (-1 : Int64)) dX11_mover_2 kc_X11_336 ?_
  refine zs_lstore_n [(2, .long (-1 : Int64)), (1, .int (-1 : Int32)), (0, .ref (zz_a G 0))] dX11_mover_5 rfl (Nat.le_of_ble_eq_true rfl) rfl ?_
  refine zs_iconst (v := (0 : Int32)) dX11_mover_6 ci_0 ?_
  refine zs_istore [(4, .int (0 : Int32)), (2, .long (-1 : Int64)), (1, .int (-1 : Int32)), (0, .ref (zz_a G 0))] dX11_mover_7 (Nat.le_of_ble_eq_true rfl) rfl ?_
  refine zs_sub [3, 2, 1, 0] rfl ?_
  exact t_X11_mover_9 hN zz_fuel _ _ _ _
/-! X11_breaks: PillarDesk.breaks(I)I -/
theorem dX11_breaks_0 : decode cX11_breaks 0 = .ok (.aload_n 0, 1) := by decide +kernel
theorem dX11_breaks_1 : decode cX11_breaks 1 = .ok (.getfield 20, 3) := by decide +kernel
theorem dX11_breaks_4 : decode cX11_breaks 4 = .ok (.iload_n 1, 1) := by decide +kernel
theorem dX11_breaks_5 : decode cX11_breaks 5 = .ok (.invokevirtual 141, 3) := by decide +kernel
theorem dX11_breaks_8 : decode cX11_breaks 8 = .ok (.ifCond .ne 6, 3) := by decide +kernel
theorem dX11_breaks_11 : decode cX11_breaks 11 = .ok (.bipush (-2), 2) := by decide +kernel
theorem dX11_breaks_13 : decode cX11_breaks 13 = .ok (.ireturn, 1) := by decide +kernel
theorem dX11_breaks_14 : decode cX11_breaks 14 = .ok (.aload_n 0, 1) := by decide +kernel
theorem dX11_breaks_15 : decode cX11_breaks 15 = .ok (.invokevirtual 166, 3) := by decide +kernel
theorem dX11_breaks_18 : decode cX11_breaks 18 = .ok (.invokevirtual 330, 3) := by decide +kernel
theorem dX11_breaks_21 : decode cX11_breaks 21 = .ok (.lstore_n 2, 1) := by decide +kernel
theorem dX11_breaks_22 : decode cX11_breaks 22 = .ok (.lload_n 2, 1) := by decide +kernel
theorem dX11_breaks_23 : decode cX11_breaks 23 = .ok (.lconst 0, 1) := by decide +kernel
theorem dX11_breaks_24 : decode cX11_breaks 24 = .ok (.lcmp, 1) := by decide +kernel
theorem dX11_breaks_25 : decode cX11_breaks 25 = .ok (.ifCond .eq 16, 3) := by decide +kernel
theorem dX11_breaks_28 : decode cX11_breaks 28 = .ok (.aload_n 0, 1) := by decide +kernel
theorem dX11_breaks_29 : decode cX11_breaks 29 = .ok (.getfield 66, 3) := by decide +kernel
theorem dX11_breaks_32 : decode cX11_breaks 32 = .ok (.getfield 176, 3) := by decide +kernel
theorem dX11_breaks_35 : decode cX11_breaks 35 = .ok (.iload_n 1, 1) := by decide +kernel
theorem dX11_breaks_36 : decode cX11_breaks 36 = .ok (.iaload, 1) := by decide +kernel
theorem dX11_breaks_37 : decode cX11_breaks 37 = .ok (.iconst (-1), 1) := by decide +kernel
theorem dX11_breaks_38 : decode cX11_breaks 38 = .ok (.if_icmp .ne 5, 3) := by decide +kernel
theorem dX11_breaks_41 : decode cX11_breaks 41 = .ok (.iconst (-1), 1) := by decide +kernel
theorem dX11_breaks_42 : decode cX11_breaks 42 = .ok (.ireturn, 1) := by decide +kernel
theorem dX11_breaks_43 : decode cX11_breaks 43 = .ok (.sipush 999, 3) := by decide +kernel
theorem dX11_breaks_46 : decode cX11_breaks 46 = .ok (.aload_n 0, 1) := by decide +kernel
theorem dX11_breaks_47 : decode cX11_breaks 47 = .ok (.getfield 75, 3) := by decide +kernel
theorem dX11_breaks_50 : decode cX11_breaks 50 = .ok (.getfield 170, 3) := by decide +kernel
theorem dX11_breaks_53 : decode cX11_breaks 53 = .ok (.iload_n 1, 1) := by decide +kernel
theorem dX11_breaks_54 : decode cX11_breaks 54 = .ok (.iaload, 1) := by decide +kernel
theorem dX11_breaks_55 : decode cX11_breaks 55 = .ok (.isub, 1) := by decide +kernel
theorem dX11_breaks_56 : decode cX11_breaks 56 = .ok (.istore 4, 2) := by decide +kernel
theorem dX11_breaks_58 : decode cX11_breaks 58 = .ok (.iconst 1, 1) := by decide +kernel
theorem dX11_breaks_59 : decode cX11_breaks 59 = .ok (.istore 5, 2) := by decide +kernel
theorem dX11_breaks_61 : decode cX11_breaks 61 = .ok (.iload 5, 2) := by decide +kernel
theorem dX11_breaks_63 : decode cX11_breaks 63 = .ok (.iload 4, 2) := by decide +kernel
theorem dX11_breaks_65 : decode cX11_breaks 65 = .ok (.if_icmp .gt 57, 3) := by decide +kernel
theorem dX11_breaks_68 : decode cX11_breaks 68 = .ok (.aload_n 0, 1) := by decide +kernel
theorem dX11_breaks_69 : decode cX11_breaks 69 = .ok (.iload_n 1, 1) := by decide +kernel
theorem dX11_breaks_70 : decode cX11_breaks 70 = .ok (.iload 5, 2) := by decide +kernel
theorem dX11_breaks_72 : decode cX11_breaks 72 = .ok (.invokevirtual 326, 3) := by decide +kernel
theorem dX11_breaks_75 : decode cX11_breaks 75 = .ok (.invokevirtual 330, 3) := by decide +kernel
theorem dX11_breaks_78 : decode cX11_breaks 78 = .ok (.lstore 6, 2) := by decide +kernel
theorem dX11_breaks_80 : decode cX11_breaks 80 = .ok (.lload 6, 2) := by decide +kernel
theorem dX11_breaks_82 : decode cX11_breaks 82 = .ok (.lconst 0, 1) := by decide +kernel
theorem dX11_breaks_83 : decode cX11_breaks 83 = .ok (.lcmp, 1) := by decide +kernel
theorem dX11_breaks_84 : decode cX11_breaks 84 = .ok (.ifCond .eq 29, 3) := by decide +kernel
theorem dX11_breaks_87 : decode cX11_breaks 87 = .ok (.lload 6, 2) := by decide +kernel
theorem dX11_breaks_89 : decode cX11_breaks 89 = .ok (.lconst 0, 1) := by decide +kernel
theorem dX11_breaks_90 : decode cX11_breaks 90 = .ok (.lcmp, 1) := by decide +kernel
theorem dX11_breaks_91 : decode cX11_breaks 91 = .ok (.ifCond .le 7, 3) := by decide +kernel
theorem dX11_breaks_94 : decode cX11_breaks 94 = .ok (.iconst 1, 1) := by decide +kernel
theorem dX11_breaks_95 : decode cX11_breaks 95 = .ok (.goto 4, 3) := by decide +kernel
theorem dX11_breaks_98 : decode cX11_breaks 98 = .ok (.iconst 0, 1) := by decide +kernel
theorem dX11_breaks_99 : decode cX11_breaks 99 = .ok (.lload_n 2, 1) := by decide +kernel
theorem dX11_breaks_100 : decode cX11_breaks 100 = .ok (.lconst 0, 1) := by decide +kernel
theorem dX11_breaks_101 : decode cX11_breaks 101 = .ok (.lcmp, 1) := by decide +kernel
theorem dX11_breaks_102 : decode cX11_breaks 102 = .ok (.ifCond .le 7, 3) := by decide +kernel
theorem dX11_breaks_105 : decode cX11_breaks 105 = .ok (.iconst 1, 1) := by decide +kernel
theorem dX11_breaks_106 : decode cX11_breaks 106 = .ok (.goto 4, 3) := by decide +kernel
theorem dX11_breaks_109 : decode cX11_breaks 109 = .ok (.iconst 0, 1) := by decide +kernel
theorem dX11_breaks_110 : decode cX11_breaks 110 = .ok (.if_icmp .eq 6, 3) := by decide +kernel
theorem dX11_breaks_113 : decode cX11_breaks 113 = .ok (.iload 5, 2) := by decide +kernel
theorem dX11_breaks_115 : decode cX11_breaks 115 = .ok (.ireturn, 1) := by decide +kernel
theorem dX11_breaks_116 : decode cX11_breaks 116 = .ok (.iinc 5 1, 3) := by decide +kernel
theorem dX11_breaks_119 : decode cX11_breaks 119 = .ok (.goto (-58), 3) := by decide +kernel
theorem dX11_breaks_122 : decode cX11_breaks 122 = .ok (.iconst (-1), 1) := by decide +kernel
theorem dX11_breaks_123 : decode cX11_breaks 123 = .ok (.ireturn, 1) := by decide +kernel
def f_X11_breaks_110  (k61 : Int32 → Int64 → Int32 → Int32 → zz_Mem → Option (Int32 × zz_Mem)) (v1 : Int32) (v2 : Int64) (v4 : Int32) (v5 : Int32) (s0 : Int32) (s1 : Int32) (m : zz_Mem) : Option (Int32 × zz_Mem) :=
  if s1 = s0 then (
  zz_letI (v5 + (1 : Int32)) fun x1 =>
  k61 v1 v2 v4 x1 m)
  else (
  some (v5, m))
theorem t_X11_breaks_110 {l : Launch} {G : zz_G} (hN : 107 ≤ zz_N G) {k61 : Int32 → Int64 → Int32 → Int32 → zz_Mem → Option (Int32 × zz_Mem)} (hk61 : ∀ (v1 : Int32) (v2 : Int64) (v4 : Int32) (v5 : Int32) (m : zz_Mem), zz_Sim zz_sh l G mX11_breaks 7 zz_vI zz_m2 (k61 v1 v2 v4 v5 m) 61 [(0, .ref (zz_a G 0)), (1, .int v1), (2, .long v2), (4, .int v4), (5, .int v5)] [] m) : ∀ (v1 : Int32) (v2 : Int64) (v4 : Int32) (v5 : Int32) (s0 : Int32) (s1 : Int32) (m : zz_Mem), zz_Sim zz_sh l G mX11_breaks 7 zz_vI zz_m2 (f_X11_breaks_110 k61 v1 v2 v4 v5 s0 s1 m) 110 [(0, .ref (zz_a G 0)), (1, .int v1), (2, .long v2), (4, .int v4), (5, .int v5)] [.int s0, .int s1] m := by
  intro v1 v2 v4 v5 s0 s1 m
  unfold f_X11_breaks_110
  refine zs_icmp_eq (tgt := 116) dX11_breaks_110 (by decide) ?_ ?_
  · refine zs_iinc (fun y => [(5, .int y), (0, .ref (zz_a G 0)), (1, .int v1), (2, .long v2), (4, .int v4)]) dX11_breaks_116 4 rfl ci_1 (Nat.le_of_ble_eq_true rfl) (fun _ => rfl) (fun x1 => ?_)
    refine zs_goto (tgt := 61) dX11_breaks_119 (by decide) ?_
    refine zs_sub [1, 2, 3, 4, 0] rfl ?_
    exact hk61 _ _ _ _ _
  · refine zs_iload dX11_breaks_113 4 rfl ?_
    exact zs_iret dX11_breaks_115 rfl rfl rfl
def f_X11_breaks_99  (k61 : Int32 → Int64 → Int32 → Int32 → zz_Mem → Option (Int32 × zz_Mem)) (v1 : Int32) (v2 : Int64) (v4 : Int32) (v5 : Int32) (s0 : Int32) (m : zz_Mem) : Option (Int32 × zz_Mem) :=
  if v2 ≤ (0 : Int64) then (
  f_X11_breaks_110 k61 v1 v2 v4 v5 (0 : Int32) s0 m)
  else (
  f_X11_breaks_110 k61 v1 v2 v4 v5 (1 : Int32) s0 m)
theorem t_X11_breaks_99 {l : Launch} {G : zz_G} (hN : 107 ≤ zz_N G) {k61 : Int32 → Int64 → Int32 → Int32 → zz_Mem → Option (Int32 × zz_Mem)} (hk61 : ∀ (v1 : Int32) (v2 : Int64) (v4 : Int32) (v5 : Int32) (m : zz_Mem), zz_Sim zz_sh l G mX11_breaks 7 zz_vI zz_m2 (k61 v1 v2 v4 v5 m) 61 [(0, .ref (zz_a G 0)), (1, .int v1), (2, .long v2), (4, .int v4), (5, .int v5)] [] m) : ∀ (v1 : Int32) (v2 : Int64) (v4 : Int32) (v5 : Int32) (s0 : Int32) (m : zz_Mem), zz_Sim zz_sh l G mX11_breaks 7 zz_vI zz_m2 (f_X11_breaks_99 k61 v1 v2 v4 v5 s0 m) 99 [(0, .ref (zz_a G 0)), (1, .int v1), (2, .long v2), (4, .int v4), (5, .int v5)] [.int s0] m := by
  intro v1 v2 v4 v5 s0 m
  unfold f_X11_breaks_99
  refine zs_lload_n dX11_breaks_99 rfl 2 rfl ?_
  refine zs_lconst (v := (0 : Int64)) dX11_breaks_100 rfl ?_
  refine zs_lcmp_le (tgt := 109) dX11_breaks_101 dX11_breaks_102 (by decide) ?_ ?_
  · refine zs_iconst (v := (0 : Int32)) dX11_breaks_109 ci_0 ?_
    exact t_X11_breaks_110 hN hk61 _ _ _ _ _ _ _
  · refine zs_iconst (v := (1 : Int32)) dX11_breaks_105 ci_1 ?_
    refine zs_goto (tgt := 110) dX11_breaks_106 (by decide) ?_
    exact t_X11_breaks_110 hN hk61 _ _ _ _ _ _ _
def f_X11_breaks_61   : Nat → Int32 → Int64 → Int32 → Int32 → zz_Mem → Option (Int32 × zz_Mem)
  | 0, _, _, _, _, _ => none
  | n + 1, v1, v2, v4, v5, m =>
  if v4 < v5 then (
  some ((-1 : Int32), m))
  else (
  zz_bndR (f_X11_bumpedTrial v1 v5 m) fun m1 =>
  zz_bndR (f_X1_bookWorth 88 m1) fun r2 =>
  if r2 = (0 : Int64) then (
  some (v5, m1))
  else (
  if r2 ≤ (0 : Int64) then (
  f_X11_breaks_99 (f_X11_breaks_61 n) v1 v2 v4 v5 (0 : Int32) m1)
  else (
  f_X11_breaks_99 (f_X11_breaks_61 n) v1 v2 v4 v5 (1 : Int32) m1)))
theorem t_X11_breaks_61 {l : Launch} {G : zz_G} (hN : 107 ≤ zz_N G)  : ∀ (n : Nat) (v1 : Int32) (v2 : Int64) (v4 : Int32) (v5 : Int32) (m : zz_Mem), zz_Sim zz_sh l G mX11_breaks 7 zz_vI zz_m2 (f_X11_breaks_61 n v1 v2 v4 v5 m) 61 [(0, .ref (zz_a G 0)), (1, .int v1), (2, .long v2), (4, .int v4), (5, .int v5)] [] m := by
  intro n
  induction n with
  | zero => intro _ _ _ _ _; exact zs_none
  | succ n ih =>
    intro v1 v2 v4 v5 m
    rw [f_X11_breaks_61]
    refine zs_iload dX11_breaks_61 4 rfl ?_
    refine zs_iload dX11_breaks_63 3 rfl ?_
    refine zs_icmp_gt (tgt := 122) dX11_breaks_65 (by decide) ?_ ?_
    · refine zs_iconst (v := (-1 : Int32)) dX11_breaks_122 ci_m1 ?_
      exact zs_iret dX11_breaks_123 rfl rfl rfl
    · refine zs_aload_n dX11_breaks_68 rfl 0 rfl ?_
      refine zs_iload_n dX11_breaks_69 rfl 1 rfl ?_
      refine zs_iload dX11_breaks_70 4 rfl ?_
      refine zs_cV_aW (rest := []) (k_X11_bumpedTrial hN _ _ _) dX11_breaks_72 lv_X11_326 ok_X11_bumpedTrial (zz_rcv_o (sh_0 hN) rfl) (Nat.le_of_ble_eq_true rfl) rfl rfl (Nat.le_of_ble_eq_true rfl) (fun m1 => ?_)
      refine zs_cV_jR (rest := []) (k_X1_bookWorth hN ((isCurve_88 hN))  _) dX11_breaks_75 lv_X11_330 ok_X1_bookWorth (zz_rcv_o (sh_88 hN) rfl) (Nat.le_of_ble_eq_true rfl) rfl rfl (Nat.le_of_ble_eq_true rfl) (fun r2 => ?_)
      refine zs_lstore [(6, .long r2), (0, .ref (zz_a G 0)), (1, .int v1), (2, .long v2), (4, .int v4), (5, .int v5)] dX11_breaks_78 (Nat.le_of_ble_eq_true rfl) rfl ?_
      refine zs_lload dX11_breaks_80 0 rfl ?_
      refine zs_lconst (v := (0 : Int64)) dX11_breaks_82 rfl ?_
      refine zs_lcmp_eq (tgt := 113) dX11_breaks_83 dX11_breaks_84 (by decide) ?_ ?_
      · refine zs_iload dX11_breaks_113 5 rfl ?_
        exact zs_iret dX11_breaks_115 rfl rfl rfl
      · refine zs_lload dX11_breaks_87 0 rfl ?_
        refine zs_lconst (v := (0 : Int64)) dX11_breaks_89 rfl ?_
        refine zs_lcmp_le (tgt := 98) dX11_breaks_90 dX11_breaks_91 (by decide) ?_ ?_
        · refine zs_iconst (v := (0 : Int32)) dX11_breaks_98 ci_0 ?_
          refine zs_sub [1, 2, 3, 4, 5] rfl ?_
          exact t_X11_breaks_99 hN ih _ _ _ _ _ _
        · refine zs_iconst (v := (1 : Int32)) dX11_breaks_94 ci_1 ?_
          refine zs_goto (tgt := 99) dX11_breaks_95 (by decide) ?_
          refine zs_sub [1, 2, 3, 4, 5] rfl ?_
          exact t_X11_breaks_99 hN ih _ _ _ _ _ _
def f_X11_breaks  (p1 : Int32) (m : zz_Mem) : Option (Int32 × zz_Mem) :=
  zz_bndR (f_X6_hasInput m p1) fun r1 =>
  if r1 = 0 then (
  some ((-2 : Int32), m))
  else (
  zz_bndR (f_X11_solvedNow m) fun m2 =>
  zz_bndR (f_X1_bookWorth 83 m2) fun r3 =>
  if r3 = (0 : Int64) then (
  some ((-1 : Int32), m2))
  else (
  zz_ix p1 8 <|
  if (m2.1 77 p1.toNatClampNeg) = (-1 : Int32) then (
  some ((-1 : Int32), m2))
  else (
  zz_ix p1 8 <|
  zz_letI ((999 : Int32) - (m2.1 84 p1.toNatClampNeg)) fun x4 =>
  f_X11_breaks_61 zz_fuel p1 r3 x4 (1 : Int32) m2)))
theorem k_X11_breaks {l : Launch} {G : zz_G} (hN : 107 ≤ zz_N G) : ∀ (p1 : Int32) (m : zz_Mem), zz_Con zz_sh l G mX11_breaks 7 [.ref (zz_a G 0), .int p1] zz_vI zz_m2 (f_X11_breaks p1 m) m := by
  intro p1 m
  refine zz_con (lv := [(0, .ref (zz_a G 0)), (1, .int p1)]) (by decide +kernel) (Nat.le_of_ble_eq_true rfl) rfl ?_
  unfold f_X11_breaks
  refine zs_aload_n dX11_breaks_0 rfl 0 rfl ?_
  refine zs_getR fl_X11_20 dX11_breaks_1 (sh_0 hN) rfl ?_
  refine zs_iload_n dX11_breaks_4 rfl 1 rfl ?_
  refine zs_cV_iR (rest := []) (k_X6_hasInput hN _ _) dX11_breaks_5 lv_X11_141 ok_X6_hasInput (zz_rcv_o (sh_2 hN) rfl) (Nat.le_of_ble_eq_true rfl) rfl rfl (Nat.le_of_ble_eq_true rfl) (fun r1 => ?_)
  refine zs_if_ne (tgt := 14) dX11_breaks_8 (by decide) ?_ ?_
  · refine zs_aload_n dX11_breaks_14 rfl 0 rfl ?_
    refine zs_cV_aW (rest := []) (k_X11_solvedNow hN  _) dX11_breaks_15 lv_X11_166 ok_X11_solvedNow (zz_rcv_o (sh_0 hN) rfl) (Nat.le_of_ble_eq_true rfl) rfl rfl (Nat.le_of_ble_eq_true rfl) (fun m2 => ?_)
    refine zs_cV_jR (rest := []) (k_X1_bookWorth hN ((isCurve_83 hN))  _) dX11_breaks_18 lv_X11_330 ok_X1_bookWorth (zz_rcv_o (sh_83 hN) rfl) (Nat.le_of_ble_eq_true rfl) rfl rfl (Nat.le_of_ble_eq_true rfl) (fun r3 => ?_)
    refine zs_lstore_n [(2, .long r3), (0, .ref (zz_a G 0)), (1, .int p1)] dX11_breaks_21 rfl (Nat.le_of_ble_eq_true rfl) rfl ?_
    refine zs_lload_n dX11_breaks_22 rfl 0 rfl ?_
    refine zs_lconst (v := (0 : Int64)) dX11_breaks_23 rfl ?_
    refine zs_lcmp_eq (tgt := 41) dX11_breaks_24 dX11_breaks_25 (by decide) ?_ ?_
    · refine zs_iconst (v := (-1 : Int32)) dX11_breaks_41 ci_m1 ?_
      exact zs_iret dX11_breaks_42 rfl rfl rfl
    · refine zs_aload_n dX11_breaks_28 rfl 1 rfl ?_
      refine zs_getR fl_X11_66 dX11_breaks_29 (sh_0 hN) rfl ?_
      refine zs_getR fl_X11_176 dX11_breaks_32 (sh_72 hN) rfl ?_
      refine zs_iload_n dX11_breaks_35 rfl 2 rfl ?_
      refine zs_ialdG dX11_breaks_36 (sh_77 hN) ?_
      refine zs_iconst (v := (-1 : Int32)) dX11_breaks_37 ci_m1 ?_
      refine zs_icmp_ne (tgt := 43) dX11_breaks_38 (by decide) ?_ ?_
      · refine zs_sipush (v := (999 : Int32)) dX11_breaks_43 cs_999 ?_
        refine zs_aload_n dX11_breaks_46 rfl 1 rfl ?_
        refine zs_getR fl_X11_75 dX11_breaks_47 (sh_0 hN) rfl ?_
        refine zs_getR fl_X11_170 dX11_breaks_50 (sh_83 hN) rfl ?_
        refine zs_iload_n dX11_breaks_53 rfl 2 rfl ?_
        refine zs_ialdG dX11_breaks_54 (sh_84 hN) ?_
        refine zs_isub dX11_breaks_55 ?_
        refine zs_letI (fun x4 => ?_)
        refine zs_istore [(4, .int x4), (2, .long r3), (0, .ref (zz_a G 0)), (1, .int p1)] dX11_breaks_56 (Nat.le_of_ble_eq_true rfl) rfl ?_
        refine zs_iconst (v := (1 : Int32)) dX11_breaks_58 ci_1 ?_
        refine zs_istore [(5, .int (1 : Int32)), (4, .int x4), (2, .long r3), (0, .ref (zz_a G 0)), (1, .int p1)] dX11_breaks_59 (Nat.le_of_ble_eq_true rfl) rfl ?_
        refine zs_sub [3, 4, 2, 1, 0] rfl ?_
        exact t_X11_breaks_61 hN zz_fuel _ _ _ _ _
      · refine zs_iconst (v := (-1 : Int32)) dX11_breaks_41 ci_m1 ?_
        exact zs_iret dX11_breaks_42 rfl rfl rfl
  · refine zs_bipush (v := (-2 : Int32)) dX11_breaks_11 cb_m2 ?_
    exact zs_iret dX11_breaks_13 rfl rfl rfl
/-! X11_hang: PillarDesk.hang(I)J -/
theorem dX11_hang_0 : decode cX11_hang 0 = .ok (.aload_n 0, 1) := by decide +kernel
theorem dX11_hang_1 : decode cX11_hang 1 = .ok (.getfield 66, 3) := by decide +kernel
theorem dX11_hang_4 : decode cX11_hang 4 = .ok (.iload_n 1, 1) := by decide +kernel
theorem dX11_hang_5 : decode cX11_hang 5 = .ok (.invokevirtual 305, 3) := by decide +kernel
theorem dX11_hang_8 : decode cX11_hang 8 = .ok (.ifCond .eq 14, 3) := by decide +kernel
theorem dX11_hang_11 : decode cX11_hang 11 = .ok (.aload_n 0, 1) := by decide +kernel
theorem dX11_hang_12 : decode cX11_hang 12 = .ok (.getfield 87, 3) := by decide +kernel
theorem dX11_hang_15 : decode cX11_hang 15 = .ok (.iload_n 1, 1) := by decide +kernel
theorem dX11_hang_16 : decode cX11_hang 16 = .ok (.invokevirtual 345, 3) := by decide +kernel
theorem dX11_hang_19 : decode cX11_hang 19 = .ok (.goto 6, 3) := by decide +kernel
theorem dX11_hang_22 : decode cX11_hang 22 = .ok (.ldc2_w 182, 3) := by decide +kernel
theorem dX11_hang_25 : decode cX11_hang 25 = .ok (.lreturn, 1) := by decide +kernel
def f_X11_hang (m : zz_Mem) (p1 : Int32) : Option Int64 :=
  zz_bndR (f_X8_hasPillar m p1) fun r1 =>
  if r1 = 0 then (
  some (-9000000000000000002 : Int64))
  else (
  zz_bndR (f_X2_bookHang m p1) fun r2 =>
  some r2)
theorem k_X11_hang {l : Launch} {G : zz_G} (hN : 107 ≤ zz_N G) : ∀ (p1 : Int32) (m : zz_Mem), zz_Con zz_sh l G mX11_hang 3 [.ref (zz_a G 0), .int p1] zz_vJr (zz_mC m) (f_X11_hang m p1) m := by
  intro p1 m
  refine zz_con (lv := [(0, .ref (zz_a G 0)), (1, .int p1)]) (by decide +kernel) (Nat.le_of_ble_eq_true rfl) rfl ?_
  unfold f_X11_hang
  refine zs_aload_n dX11_hang_0 rfl 0 rfl ?_
  refine zs_getR fl_X11_66 dX11_hang_1 (sh_0 hN) rfl ?_
  refine zs_iload_n dX11_hang_4 rfl 1 rfl ?_
  refine zs_cV_iR (rest := []) (k_X8_hasPillar hN _ _) dX11_hang_5 lv_X11_305 ok_X8_hasPillar (zz_rcv_o (sh_72 hN) rfl) (Nat.le_of_ble_eq_true rfl) rfl rfl (Nat.le_of_ble_eq_true rfl) (fun r1 => ?_)
  refine zs_if_eq (tgt := 22) dX11_hang_8 (by decide) ?_ ?_
  · refine zs_ldc2 (v := (-9000000000000000002 : Int64)) dX11_hang_22 kc_X11_182 ?_
    exact zs_lret dX11_hang_25 rfl rfl rfl
  · refine zs_aload_n dX11_hang_11 rfl 0 rfl ?_
    refine zs_getR fl_X11_87 dX11_hang_12 (sh_0 hN) rfl ?_
    refine zs_iload_n dX11_hang_15 rfl 1 rfl ?_
    refine zs_cV_jR (rest := []) (k_X2_bookHang hN _ _) dX11_hang_16 lv_X11_345 ok_X2_bookHang (zz_rcv_o (sh_93 hN) rfl) (Nat.le_of_ble_eq_true rfl) rfl rfl (Nat.le_of_ble_eq_true rfl) (fun r2 => ?_)
    refine zs_goto (tgt := 25) dX11_hang_19 (by decide) ?_
    exact zs_lret dX11_hang_25 rfl rfl rfl
/-! X11_flat: PillarDesk.flat(I)J -/
theorem dX11_flat_0 : decode cX11_flat 0 = .ok (.iload_n 1, 1) := by decide +kernel
theorem dX11_flat_1 : decode cX11_flat 1 = .ok (.iconst 1, 1) := by decide +kernel
theorem dX11_flat_2 : decode cX11_flat 2 = .ok (.if_icmp .lt 14, 3) := by decide +kernel
theorem dX11_flat_5 : decode cX11_flat 5 = .ok (.aload_n 0, 1) := by decide +kernel
theorem dX11_flat_6 : decode cX11_flat 6 = .ok (.getfield 66, 3) := by decide +kernel
theorem dX11_flat_9 : decode cX11_flat 9 = .ok (.iload_n 1, 1) := by decide +kernel
theorem dX11_flat_10 : decode cX11_flat 10 = .ok (.invokevirtual 305, 3) := by decide +kernel
theorem dX11_flat_13 : decode cX11_flat 13 = .ok (.ifCond .ne 7, 3) := by decide +kernel
theorem dX11_flat_16 : decode cX11_flat 16 = .ok (.ldc2_w 182, 3) := by decide +kernel
theorem dX11_flat_19 : decode cX11_flat 19 = .ok (.lreturn, 1) := by decide +kernel
theorem dX11_flat_20 : decode cX11_flat 20 = .ok (.aload_n 0, 1) := by decide +kernel
theorem dX11_flat_21 : decode cX11_flat 21 = .ok (.invokevirtual 166, 3) := by decide +kernel
theorem dX11_flat_24 : decode cX11_flat 24 = .ok (.pop, 1) := by decide +kernel
theorem dX11_flat_25 : decode cX11_flat 25 = .ok (.aload_n 0, 1) := by decide +kernel
theorem dX11_flat_26 : decode cX11_flat 26 = .ok (.getfield 87, 3) := by decide +kernel
theorem dX11_flat_29 : decode cX11_flat 29 = .ok (.invokevirtual 349, 3) := by decide +kernel
theorem dX11_flat_32 : decode cX11_flat 32 = .ok (.aload_n 0, 1) := by decide +kernel
theorem dX11_flat_33 : decode cX11_flat 33 = .ok (.getfield 87, 3) := by decide +kernel
theorem dX11_flat_36 : decode cX11_flat 36 = .ok (.getfield 352, 3) := by decide +kernel
theorem dX11_flat_39 : decode cX11_flat 39 = .ok (.iload_n 1, 1) := by decide +kernel
theorem dX11_flat_40 : decode cX11_flat 40 = .ok (.laload, 1) := by decide +kernel
theorem dX11_flat_41 : decode cX11_flat 41 = .ok (.lreturn, 1) := by decide +kernel
def f_X11_flat  (p1 : Int32) (m : zz_Mem) : Option (Int64 × zz_Mem) :=
  if p1 < (1 : Int32) then (
  some ((-9000000000000000002 : Int64), m))
  else (
  zz_bndR (f_X8_hasPillar m p1) fun r1 =>
  if r1 = 0 then (
  some ((-9000000000000000002 : Int64), m))
  else (
  zz_bndR (f_X11_solvedNow m) fun m2 =>
  zz_bndR (f_X2_flatten m2) fun m3 =>
  zz_ix p1 9 <|
  some (m3.2.1 94 p1.toNatClampNeg, m3)))
theorem k_X11_flat {l : Launch} {G : zz_G} (hN : 107 ≤ zz_N G) : ∀ (p1 : Int32) (m : zz_Mem), zz_Con zz_sh l G mX11_flat 6 [.ref (zz_a G 0), .int p1] zz_vJ zz_m2 (f_X11_flat p1 m) m := by
  intro p1 m
  refine zz_con (lv := [(0, .ref (zz_a G 0)), (1, .int p1)]) (by decide +kernel) (Nat.le_of_ble_eq_true rfl) rfl ?_
  unfold f_X11_flat
  refine zs_iload_n dX11_flat_0 rfl 1 rfl ?_
  refine zs_iconst (v := (1 : Int32)) dX11_flat_1 ci_1 ?_
  refine zs_icmp_lt (tgt := 16) dX11_flat_2 (by decide) ?_ ?_
  · refine zs_ldc2 (v := (-9000000000000000002 : Int64)) dX11_flat_16 kc_X11_182 ?_
    exact zs_lret dX11_flat_19 rfl rfl rfl
  · refine zs_aload_n dX11_flat_5 rfl 0 rfl ?_
    refine zs_getR fl_X11_66 dX11_flat_6 (sh_0 hN) rfl ?_
    refine zs_iload_n dX11_flat_9 rfl 1 rfl ?_
    refine zs_cV_iR (rest := []) (k_X8_hasPillar hN _ _) dX11_flat_10 lv_X11_305 ok_X8_hasPillar (zz_rcv_o (sh_72 hN) rfl) (Nat.le_of_ble_eq_true rfl) rfl rfl (Nat.le_of_ble_eq_true rfl) (fun r1 => ?_)
    refine zs_if_ne (tgt := 20) dX11_flat_13 (by decide) ?_ ?_
    · refine zs_aload_n dX11_flat_20 rfl 0 rfl ?_
      refine zs_cV_aW (rest := []) (k_X11_solvedNow hN  _) dX11_flat_21 lv_X11_166 ok_X11_solvedNow (zz_rcv_o (sh_0 hN) rfl) (Nat.le_of_ble_eq_true rfl) rfl rfl (Nat.le_of_ble_eq_true rfl) (fun m2 => ?_)
      refine zs_pop dX11_flat_24 rfl ?_
      refine zs_aload_n dX11_flat_25 rfl 0 rfl ?_
      refine zs_getR fl_X11_87 dX11_flat_26 (sh_0 hN) rfl ?_
      refine zs_cV_vW (rest := []) (k_X2_flatten hN  _) dX11_flat_29 lv_X11_349 ok_X2_flatten (zz_rcv_o (sh_93 hN) rfl) (Nat.le_of_ble_eq_true rfl) rfl rfl (Nat.le_of_ble_eq_true rfl) (fun m3 => ?_)
      refine zs_aload_n dX11_flat_32 rfl 0 rfl ?_
      refine zs_getR fl_X11_87 dX11_flat_33 (sh_0 hN) rfl ?_
      refine zs_getR fl_X11_352 dX11_flat_36 (sh_93 hN) rfl ?_
      refine zs_iload_n dX11_flat_39 rfl 1 rfl ?_
      refine zs_laldG dX11_flat_40 (sh_94 hN) ?_
      exact zs_lret dX11_flat_41 rfl rfl rfl
    · refine zs_ldc2 (v := (-9000000000000000002 : Int64)) dX11_flat_16 kc_X11_182 ?_
      exact zs_lret dX11_flat_19 rfl rfl rfl
/-! X11_left: PillarDesk.left(I)J -/
theorem dX11_left_0 : decode cX11_left 0 = .ok (.iload_n 1, 1) := by decide +kernel
theorem dX11_left_1 : decode cX11_left 1 = .ok (.iconst 1, 1) := by decide +kernel
theorem dX11_left_2 : decode cX11_left 2 = .ok (.if_icmp .lt 14, 3) := by decide +kernel
theorem dX11_left_5 : decode cX11_left 5 = .ok (.aload_n 0, 1) := by decide +kernel
theorem dX11_left_6 : decode cX11_left 6 = .ok (.getfield 66, 3) := by decide +kernel
theorem dX11_left_9 : decode cX11_left 9 = .ok (.iload_n 1, 1) := by decide +kernel
theorem dX11_left_10 : decode cX11_left 10 = .ok (.invokevirtual 305, 3) := by decide +kernel
theorem dX11_left_13 : decode cX11_left 13 = .ok (.ifCond .ne 7, 3) := by decide +kernel
theorem dX11_left_16 : decode cX11_left 16 = .ok (.ldc2_w 182, 3) := by decide +kernel
theorem dX11_left_19 : decode cX11_left 19 = .ok (.lreturn, 1) := by decide +kernel
theorem dX11_left_20 : decode cX11_left 20 = .ok (.aload_n 0, 1) := by decide +kernel
theorem dX11_left_21 : decode cX11_left 21 = .ok (.invokevirtual 166, 3) := by decide +kernel
theorem dX11_left_24 : decode cX11_left 24 = .ok (.pop, 1) := by decide +kernel
theorem dX11_left_25 : decode cX11_left 25 = .ok (.aload_n 0, 1) := by decide +kernel
theorem dX11_left_26 : decode cX11_left 26 = .ok (.getfield 87, 3) := by decide +kernel
theorem dX11_left_29 : decode cX11_left 29 = .ok (.invokevirtual 349, 3) := by decide +kernel
theorem dX11_left_32 : decode cX11_left 32 = .ok (.aload_n 0, 1) := by decide +kernel
theorem dX11_left_33 : decode cX11_left 33 = .ok (.getfield 87, 3) := by decide +kernel
theorem dX11_left_36 : decode cX11_left 36 = .ok (.getfield 355, 3) := by decide +kernel
theorem dX11_left_39 : decode cX11_left 39 = .ok (.iload_n 1, 1) := by decide +kernel
theorem dX11_left_40 : decode cX11_left 40 = .ok (.laload, 1) := by decide +kernel
theorem dX11_left_41 : decode cX11_left 41 = .ok (.lreturn, 1) := by decide +kernel
def f_X11_left  (p1 : Int32) (m : zz_Mem) : Option (Int64 × zz_Mem) :=
  if p1 < (1 : Int32) then (
  some ((-9000000000000000002 : Int64), m))
  else (
  zz_bndR (f_X8_hasPillar m p1) fun r1 =>
  if r1 = 0 then (
  some ((-9000000000000000002 : Int64), m))
  else (
  zz_bndR (f_X11_solvedNow m) fun m2 =>
  zz_bndR (f_X2_flatten m2) fun m3 =>
  zz_ix p1 9 <|
  some (m3.2.1 95 p1.toNatClampNeg, m3)))
theorem k_X11_left {l : Launch} {G : zz_G} (hN : 107 ≤ zz_N G) : ∀ (p1 : Int32) (m : zz_Mem), zz_Con zz_sh l G mX11_left 6 [.ref (zz_a G 0), .int p1] zz_vJ zz_m2 (f_X11_left p1 m) m := by
  intro p1 m
  refine zz_con (lv := [(0, .ref (zz_a G 0)), (1, .int p1)]) (by decide +kernel) (Nat.le_of_ble_eq_true rfl) rfl ?_
  unfold f_X11_left
  refine zs_iload_n dX11_left_0 rfl 1 rfl ?_
  refine zs_iconst (v := (1 : Int32)) dX11_left_1 ci_1 ?_
  refine zs_icmp_lt (tgt := 16) dX11_left_2 (by decide) ?_ ?_
  · refine zs_ldc2 (v := (-9000000000000000002 : Int64)) dX11_left_16 kc_X11_182 ?_
    exact zs_lret dX11_left_19 rfl rfl rfl
  · refine zs_aload_n dX11_left_5 rfl 0 rfl ?_
    refine zs_getR fl_X11_66 dX11_left_6 (sh_0 hN) rfl ?_
    refine zs_iload_n dX11_left_9 rfl 1 rfl ?_
    refine zs_cV_iR (rest := []) (k_X8_hasPillar hN _ _) dX11_left_10 lv_X11_305 ok_X8_hasPillar (zz_rcv_o (sh_72 hN) rfl) (Nat.le_of_ble_eq_true rfl) rfl rfl (Nat.le_of_ble_eq_true rfl) (fun r1 => ?_)
    refine zs_if_ne (tgt := 20) dX11_left_13 (by decide) ?_ ?_
    · refine zs_aload_n dX11_left_20 rfl 0 rfl ?_
      refine zs_cV_aW (rest := []) (k_X11_solvedNow hN  _) dX11_left_21 lv_X11_166 ok_X11_solvedNow (zz_rcv_o (sh_0 hN) rfl) (Nat.le_of_ble_eq_true rfl) rfl rfl (Nat.le_of_ble_eq_true rfl) (fun m2 => ?_)
      refine zs_pop dX11_left_24 rfl ?_
      refine zs_aload_n dX11_left_25 rfl 0 rfl ?_
      refine zs_getR fl_X11_87 dX11_left_26 (sh_0 hN) rfl ?_
      refine zs_cV_vW (rest := []) (k_X2_flatten hN  _) dX11_left_29 lv_X11_349 ok_X2_flatten (zz_rcv_o (sh_93 hN) rfl) (Nat.le_of_ble_eq_true rfl) rfl rfl (Nat.le_of_ble_eq_true rfl) (fun m3 => ?_)
      refine zs_aload_n dX11_left_32 rfl 0 rfl ?_
      refine zs_getR fl_X11_87 dX11_left_33 (sh_0 hN) rfl ?_
      refine zs_getR fl_X11_355 dX11_left_36 (sh_93 hN) rfl ?_
      refine zs_iload_n dX11_left_39 rfl 1 rfl ?_
      refine zs_laldG dX11_left_40 (sh_95 hN) ?_
      exact zs_lret dX11_left_41 rfl rfl rfl
    · refine zs_ldc2 (v := (-9000000000000000002 : Int64)) dX11_left_16 kc_X11_182 ?_
      exact zs_lret dX11_left_19 rfl rfl rfl
/-! X11_toldRefusal: PillarDesk.toldRefusal(I)I -/
theorem dX11_toldRefusal_0 : decode cX11_toldRefusal 0 = .ok (.aload_n 0, 1) := by decide +kernel
theorem dX11_toldRefusal_1 : decode cX11_toldRefusal 1 = .ok (.iload_n 1, 1) := by decide +kernel
theorem dX11_toldRefusal_2 : decode cX11_toldRefusal 2 = .ok (.invokevirtual 240, 3) := by decide +kernel
theorem dX11_toldRefusal_5 : decode cX11_toldRefusal 5 = .ok (.ifCond .eq 6, 3) := by decide +kernel
theorem dX11_toldRefusal_8 : decode cX11_toldRefusal 8 = .ok (.bipush (-2), 2) := by decide +kernel
theorem dX11_toldRefusal_10 : decode cX11_toldRefusal 10 = .ok (.ireturn, 1) := by decide +kernel
theorem dX11_toldRefusal_11 : decode cX11_toldRefusal 11 = .ok (.aload_n 0, 1) := by decide +kernel
theorem dX11_toldRefusal_12 : decode cX11_toldRefusal 12 = .ok (.getfield 42, 3) := by decide +kernel
theorem dX11_toldRefusal_15 : decode cX11_toldRefusal 15 = .ok (.iload_n 1, 1) := by decide +kernel
theorem dX11_toldRefusal_16 : decode cX11_toldRefusal 16 = .ok (.aaload, 1) := by decide +kernel
theorem dX11_toldRefusal_17 : decode cX11_toldRefusal 17 = .ok (.invokevirtual 243, 3) := by decide +kernel
theorem dX11_toldRefusal_20 : decode cX11_toldRefusal 20 = .ok (.ifCond .eq 6, 3) := by decide +kernel
theorem dX11_toldRefusal_23 : decode cX11_toldRefusal 23 = .ok (.bipush (-6), 2) := by decide +kernel
theorem dX11_toldRefusal_25 : decode cX11_toldRefusal 25 = .ok (.ireturn, 1) := by decide +kernel
theorem dX11_toldRefusal_26 : decode cX11_toldRefusal 26 = .ok (.aload_n 0, 1) := by decide +kernel
theorem dX11_toldRefusal_27 : decode cX11_toldRefusal 27 = .ok (.getfield 42, 3) := by decide +kernel
theorem dX11_toldRefusal_30 : decode cX11_toldRefusal 30 = .ok (.iload_n 1, 1) := by decide +kernel
theorem dX11_toldRefusal_31 : decode cX11_toldRefusal 31 = .ok (.aaload, 1) := by decide +kernel
theorem dX11_toldRefusal_32 : decode cX11_toldRefusal 32 = .ok (.getfield 251, 3) := by decide +kernel
theorem dX11_toldRefusal_35 : decode cX11_toldRefusal 35 = .ok (.iconst 1, 1) := by decide +kernel
theorem dX11_toldRefusal_36 : decode cX11_toldRefusal 36 = .ok (.if_icmp .lt 17, 3) := by decide +kernel
theorem dX11_toldRefusal_39 : decode cX11_toldRefusal 39 = .ok (.aload_n 0, 1) := by decide +kernel
theorem dX11_toldRefusal_40 : decode cX11_toldRefusal 40 = .ok (.getfield 42, 3) := by decide +kernel
theorem dX11_toldRefusal_43 : decode cX11_toldRefusal 43 = .ok (.iload_n 1, 1) := by decide +kernel
theorem dX11_toldRefusal_44 : decode cX11_toldRefusal 44 = .ok (.aaload, 1) := by decide +kernel
theorem dX11_toldRefusal_45 : decode cX11_toldRefusal 45 = .ok (.getfield 251, 3) := by decide +kernel
theorem dX11_toldRefusal_48 : decode cX11_toldRefusal 48 = .ok (.bipush 8, 2) := by decide +kernel
theorem dX11_toldRefusal_50 : decode cX11_toldRefusal 50 = .ok (.if_icmp .le 6, 3) := by decide +kernel
theorem dX11_toldRefusal_53 : decode cX11_toldRefusal 53 = .ok (.bipush (-4), 2) := by decide +kernel
theorem dX11_toldRefusal_55 : decode cX11_toldRefusal 55 = .ok (.ireturn, 1) := by decide +kernel
theorem dX11_toldRefusal_56 : decode cX11_toldRefusal 56 = .ok (.iconst 0, 1) := by decide +kernel
theorem dX11_toldRefusal_57 : decode cX11_toldRefusal 57 = .ok (.istore_n 2, 1) := by decide +kernel
theorem dX11_toldRefusal_58 : decode cX11_toldRefusal 58 = .ok (.iload_n 2, 1) := by decide +kernel
theorem dX11_toldRefusal_59 : decode cX11_toldRefusal 59 = .ok (.aload_n 0, 1) := by decide +kernel
theorem dX11_toldRefusal_60 : decode cX11_toldRefusal 60 = .ok (.getfield 42, 3) := by decide +kernel
theorem dX11_toldRefusal_63 : decode cX11_toldRefusal 63 = .ok (.iload_n 1, 1) := by decide +kernel
theorem dX11_toldRefusal_64 : decode cX11_toldRefusal 64 = .ok (.aaload, 1) := by decide +kernel
theorem dX11_toldRefusal_65 : decode cX11_toldRefusal 65 = .ok (.getfield 251, 3) := by decide +kernel
theorem dX11_toldRefusal_68 : decode cX11_toldRefusal 68 = .ok (.if_icmp .ge 46, 3) := by decide +kernel
theorem dX11_toldRefusal_71 : decode cX11_toldRefusal 71 = .ok (.aload_n 0, 1) := by decide +kernel
theorem dX11_toldRefusal_72 : decode cX11_toldRefusal 72 = .ok (.getfield 42, 3) := by decide +kernel
theorem dX11_toldRefusal_75 : decode cX11_toldRefusal 75 = .ok (.iload_n 1, 1) := by decide +kernel
theorem dX11_toldRefusal_76 : decode cX11_toldRefusal 76 = .ok (.aaload, 1) := by decide +kernel
theorem dX11_toldRefusal_77 : decode cX11_toldRefusal 77 = .ok (.getfield 252, 3) := by decide +kernel
theorem dX11_toldRefusal_80 : decode cX11_toldRefusal 80 = .ok (.iload_n 2, 1) := by decide +kernel
theorem dX11_toldRefusal_81 : decode cX11_toldRefusal 81 = .ok (.laload, 1) := by decide +kernel
theorem dX11_toldRefusal_82 : decode cX11_toldRefusal 82 = .ok (.lconst 0, 1) := by decide +kernel
theorem dX11_toldRefusal_83 : decode cX11_toldRefusal 83 = .ok (.lcmp, 1) := by decide +kernel
theorem dX11_toldRefusal_84 : decode cX11_toldRefusal 84 = .ok (.ifCond .lt 21, 3) := by decide +kernel
theorem dX11_toldRefusal_87 : decode cX11_toldRefusal 87 = .ok (.aload_n 0, 1) := by decide +kernel
theorem dX11_toldRefusal_88 : decode cX11_toldRefusal 88 = .ok (.getfield 42, 3) := by decide +kernel
theorem dX11_toldRefusal_91 : decode cX11_toldRefusal 91 = .ok (.iload_n 1, 1) := by decide +kernel
theorem dX11_toldRefusal_92 : decode cX11_toldRefusal 92 = .ok (.aaload, 1) := by decide +kernel
theorem dX11_toldRefusal_93 : decode cX11_toldRefusal 93 = .ok (.getfield 252, 3) := by decide +kernel
theorem dX11_toldRefusal_96 : decode cX11_toldRefusal 96 = .ok (.iload_n 2, 1) := by decide +kernel
theorem dX11_toldRefusal_97 : decode cX11_toldRefusal 97 = .ok (.laload, 1) := by decide +kernel
theorem dX11_toldRefusal_98 : decode cX11_toldRefusal 98 = .ok (.ldc2_w 365, 3) := by decide +kernel
theorem dX11_toldRefusal_101 : decode cX11_toldRefusal 101 = .ok (.lcmp, 1) := by decide +kernel
theorem dX11_toldRefusal_102 : decode cX11_toldRefusal 102 = .ok (.ifCond .le 6, 3) := by decide +kernel
theorem dX11_toldRefusal_105 : decode cX11_toldRefusal 105 = .ok (.bipush (-3), 2) := by decide +kernel
theorem dX11_toldRefusal_107 : decode cX11_toldRefusal 107 = .ok (.ireturn, 1) := by decide +kernel
theorem dX11_toldRefusal_108 : decode cX11_toldRefusal 108 = .ok (.iinc 2 1, 3) := by decide +kernel
theorem dX11_toldRefusal_111 : decode cX11_toldRefusal 111 = .ok (.goto (-53), 3) := by decide +kernel
theorem dX11_toldRefusal_114 : decode cX11_toldRefusal 114 = .ok (.iconst 0, 1) := by decide +kernel
theorem dX11_toldRefusal_115 : decode cX11_toldRefusal 115 = .ok (.ireturn, 1) := by decide +kernel
def f_X11_toldRefusal_58 (m : zz_Mem)  : Nat → Int32 → Int32 → Option Int32
  | 0, _, _ => none
  | n + 1, v1, v2 =>
  zz_ix v1 4 <|
  if (m.1 (99 + 2 * v1.toNatClampNeg) 2) ≤ v2 then (
  some (0 : Int32))
  else (
  zz_ix v1 4 <|
  zz_ix v2 40 <|
  if (m.2.1 ((99 + 2 * v1.toNatClampNeg) + 1) v2.toNatClampNeg) < (0 : Int64) then (
  some (-3 : Int32))
  else (
  zz_ix v1 4 <|
  zz_ix v2 40 <|
  if (m.2.1 ((99 + 2 * v1.toNatClampNeg) + 1) v2.toNatClampNeg) ≤ (999999999999 : Int64) then (
  zz_letI (v2 + (1 : Int32)) fun x4 =>
  f_X11_toldRefusal_58 m n v1 x4)
  else (
  some (-3 : Int32))))
theorem t_X11_toldRefusal_58 {l : Launch} {G : zz_G} (hN : 107 ≤ zz_N G) {m : zz_Mem}  : ∀ (n : Nat) (v1 : Int32) (v2 : Int32), zz_Sim zz_sh l G mX11_toldRefusal 1 zz_vIr (zz_mC m) (f_X11_toldRefusal_58 m n v1 v2) 58 [(0, .ref (zz_a G 0)), (1, .int v1), (2, .int v2)] [] m := by
  intro n
  induction n with
  | zero => intro _ _; exact zs_none
  | succ n ih =>
    intro v1 v2
    rw [f_X11_toldRefusal_58]
    refine zs_iload_n dX11_toldRefusal_58 rfl 2 rfl ?_
    refine zs_aload_n dX11_toldRefusal_59 rfl 0 rfl ?_
    refine zs_getR fl_X11_42 dX11_toldRefusal_60 (sh_0 hN) rfl ?_
    refine zs_iload_n dX11_toldRefusal_63 rfl 1 rfl ?_
    refine zs_aaldTray dX11_toldRefusal_64 (sh_33 hN) (fun h1 => ?_)
    refine zs_getI fl_X11_251 dX11_toldRefusal_65 (isTrays hN h1).1 rfl ?_
    refine zs_icmp_ge (tgt := 114) dX11_toldRefusal_68 (by decide) ?_ ?_
    · refine zs_iconst (v := (0 : Int32)) dX11_toldRefusal_114 ci_0 ?_
      exact zs_iret dX11_toldRefusal_115 rfl rfl rfl
    · refine zs_aload_n dX11_toldRefusal_71 rfl 0 rfl ?_
      refine zs_getR fl_X11_42 dX11_toldRefusal_72 (sh_0 hN) rfl ?_
      refine zs_iload_n dX11_toldRefusal_75 rfl 1 rfl ?_
      refine zs_aaldTray dX11_toldRefusal_76 (sh_33 hN) (fun h2 => ?_)
      refine zs_getR fl_X11_252 dX11_toldRefusal_77 (isTrays hN h2).1 rfl ?_
      refine zs_iload_n dX11_toldRefusal_80 rfl 2 rfl ?_
      refine zs_laldG dX11_toldRefusal_81 (isTrays hN h2).2 ?_
      refine zs_lconst (v := (0 : Int64)) dX11_toldRefusal_82 rfl ?_
      refine zs_lcmp_lt (tgt := 105) dX11_toldRefusal_83 dX11_toldRefusal_84 (by decide) ?_ ?_
      · refine zs_bipush (v := (-3 : Int32)) dX11_toldRefusal_105 cb_m3 ?_
        exact zs_iret dX11_toldRefusal_107 rfl rfl rfl
      · refine zs_aload_n dX11_toldRefusal_87 rfl 0 rfl ?_
        refine zs_getR fl_X11_42 dX11_toldRefusal_88 (sh_0 hN) rfl ?_
        refine zs_iload_n dX11_toldRefusal_91 rfl 1 rfl ?_
        refine zs_aaldTray dX11_toldRefusal_92 (sh_33 hN) (fun h3 => ?_)
        refine zs_getR fl_X11_252 dX11_toldRefusal_93 (isTrays hN h3).1 rfl ?_
        refine zs_iload_n dX11_toldRefusal_96 rfl 2 rfl ?_
        refine zs_laldG dX11_toldRefusal_97 (isTrays hN h3).2 ?_
        refine zs_ldc2 (v := (999999999999 : Int64)) dX11_toldRefusal_98 kc_X11_365 ?_
        refine zs_lcmp_le (tgt := 108) dX11_toldRefusal_101 dX11_toldRefusal_102 (by decide) ?_ ?_
        · refine zs_iinc (fun y => [(2, .int y), (0, .ref (zz_a G 0)), (1, .int v1)]) dX11_toldRefusal_108 2 rfl ci_1 (Nat.le_of_ble_eq_true rfl) (fun _ => rfl) (fun x4 => ?_)
          refine zs_goto (tgt := 58) dX11_toldRefusal_111 (by decide) ?_
          refine zs_sub [1, 2, 0] rfl ?_
          exact ih _ _
        · refine zs_bipush (v := (-3 : Int32)) dX11_toldRefusal_105 cb_m3 ?_
          exact zs_iret dX11_toldRefusal_107 rfl rfl rfl
def f_X11_toldRefusal (m : zz_Mem) (p1 : Int32) : Option Int32 :=
  zz_bndR (f_X11_noTray m p1) fun r1 =>
  if r1 = 0 then (
  zz_ix p1 4 <|
  zz_bndR (f_X10_isMissing (99 + 2 * p1.toNatClampNeg) m) fun r3 =>
  if r3 = 0 then (
  zz_ix p1 4 <|
  if (m.1 (99 + 2 * p1.toNatClampNeg) 2) < (1 : Int32) then (
  some (-4 : Int32))
  else (
  zz_ix p1 4 <|
  if (m.1 (99 + 2 * p1.toNatClampNeg) 2) ≤ (8 : Int32) then (
  f_X11_toldRefusal_58 m zz_fuel p1 (0 : Int32))
  else (
  some (-4 : Int32))))
  else (
  some (-6 : Int32)))
  else (
  some (-2 : Int32))
theorem k_X11_toldRefusal {l : Launch} {G : zz_G} (hN : 107 ≤ zz_N G) : ∀ (p1 : Int32) (m : zz_Mem), zz_Con zz_sh l G mX11_toldRefusal 1 [.ref (zz_a G 0), .int p1] zz_vIr (zz_mC m) (f_X11_toldRefusal m p1) m := by
  intro p1 m
  refine zz_con (lv := [(0, .ref (zz_a G 0)), (1, .int p1)]) (by decide +kernel) (Nat.le_of_ble_eq_true rfl) rfl ?_
  unfold f_X11_toldRefusal
  refine zs_aload_n dX11_toldRefusal_0 rfl 0 rfl ?_
  refine zs_iload_n dX11_toldRefusal_1 rfl 1 rfl ?_
  refine zs_cV_iR (rest := []) (k_X11_noTray hN _ _) dX11_toldRefusal_2 lv_X11_240 ok_X11_noTray (zz_rcv_o (sh_0 hN) rfl) (Nat.le_of_ble_eq_true rfl) rfl rfl (Nat.le_of_ble_eq_true rfl) (fun r1 => ?_)
  refine zs_if_eq (tgt := 11) dX11_toldRefusal_5 (by decide) ?_ ?_
  · refine zs_aload_n dX11_toldRefusal_11 rfl 0 rfl ?_
    refine zs_getR fl_X11_42 dX11_toldRefusal_12 (sh_0 hN) rfl ?_
    refine zs_iload_n dX11_toldRefusal_15 rfl 1 rfl ?_
    refine zs_aaldTray dX11_toldRefusal_16 (sh_33 hN) (fun h2 => ?_)
    refine zs_cV_iR (rest := []) (k_X10_isMissing hN (isTrays hN h2)  _) dX11_toldRefusal_17 lv_X11_243 ok_X10_isMissing (zz_rcv_o (isTrays hN h2).1 rfl) (Nat.le_of_ble_eq_true rfl) rfl rfl (Nat.le_of_ble_eq_true rfl) (fun r3 => ?_)
    refine zs_if_eq (tgt := 26) dX11_toldRefusal_20 (by decide) ?_ ?_
    · refine zs_aload_n dX11_toldRefusal_26 rfl 0 rfl ?_
      refine zs_getR fl_X11_42 dX11_toldRefusal_27 (sh_0 hN) rfl ?_
      refine zs_iload_n dX11_toldRefusal_30 rfl 1 rfl ?_
      refine zs_aaldTray dX11_toldRefusal_31 (sh_33 hN) (fun h4 => ?_)
      refine zs_getI fl_X11_251 dX11_toldRefusal_32 (isTrays hN h4).1 rfl ?_
      refine zs_iconst (v := (1 : Int32)) dX11_toldRefusal_35 ci_1 ?_
      refine zs_icmp_lt (tgt := 53) dX11_toldRefusal_36 (by decide) ?_ ?_
      · refine zs_bipush (v := (-4 : Int32)) dX11_toldRefusal_53 cb_m4 ?_
        exact zs_iret dX11_toldRefusal_55 rfl rfl rfl
      · refine zs_aload_n dX11_toldRefusal_39 rfl 0 rfl ?_
        refine zs_getR fl_X11_42 dX11_toldRefusal_40 (sh_0 hN) rfl ?_
        refine zs_iload_n dX11_toldRefusal_43 rfl 1 rfl ?_
        refine zs_aaldTray dX11_toldRefusal_44 (sh_33 hN) (fun h5 => ?_)
        refine zs_getI fl_X11_251 dX11_toldRefusal_45 (isTrays hN h5).1 rfl ?_
        refine zs_bipush (v := (8 : Int32)) dX11_toldRefusal_48 cb_8 ?_
        refine zs_icmp_le (tgt := 56) dX11_toldRefusal_50 (by decide) ?_ ?_
        · refine zs_iconst (v := (0 : Int32)) dX11_toldRefusal_56 ci_0 ?_
          refine zs_istore_n [(2, .int (0 : Int32)), (0, .ref (zz_a G 0)), (1, .int p1)] dX11_toldRefusal_57 rfl (Nat.le_of_ble_eq_true rfl) rfl ?_
          refine zs_sub [1, 2, 0] rfl ?_
          exact t_X11_toldRefusal_58 hN zz_fuel _ _
        · refine zs_bipush (v := (-4 : Int32)) dX11_toldRefusal_53 cb_m4 ?_
          exact zs_iret dX11_toldRefusal_55 rfl rfl rfl
    · refine zs_bipush (v := (-6 : Int32)) dX11_toldRefusal_23 cb_m6 ?_
      exact zs_iret dX11_toldRefusal_25 rfl rfl rfl
  · refine zs_bipush (v := (-2 : Int32)) dX11_toldRefusal_8 cb_m2 ?_
    exact zs_iret dX11_toldRefusal_10 rfl rfl rfl
/-! X11_trialIsTold: PillarDesk.trialIsTold(LPillarDesk$Tray;)Z -/
theorem dX11_trialIsTold_0 : decode cX11_trialIsTold 0 = .ok (.iconst 0, 1) := by decide +kernel
theorem dX11_trialIsTold_1 : decode cX11_trialIsTold 1 = .ok (.istore_n 2, 1) := by decide +kernel
theorem dX11_trialIsTold_2 : decode cX11_trialIsTold 2 = .ok (.iload_n 2, 1) := by decide +kernel
theorem dX11_trialIsTold_3 : decode cX11_trialIsTold 3 = .ok (.aload_n 1, 1) := by decide +kernel
theorem dX11_trialIsTold_4 : decode cX11_trialIsTold 4 = .ok (.getfield 251, 3) := by decide +kernel
theorem dX11_trialIsTold_7 : decode cX11_trialIsTold 7 = .ok (.if_icmp .ge 49, 3) := by decide +kernel
theorem dX11_trialIsTold_10 : decode cX11_trialIsTold 10 = .ok (.aload_n 1, 1) := by decide +kernel
theorem dX11_trialIsTold_11 : decode cX11_trialIsTold 11 = .ok (.getfield 252, 3) := by decide +kernel
theorem dX11_trialIsTold_14 : decode cX11_trialIsTold 14 = .ok (.iload_n 2, 1) := by decide +kernel
theorem dX11_trialIsTold_15 : decode cX11_trialIsTold 15 = .ok (.laload, 1) := by decide +kernel
theorem dX11_trialIsTold_16 : decode cX11_trialIsTold 16 = .ok (.ldc2_w 371, 3) := by decide +kernel
theorem dX11_trialIsTold_19 : decode cX11_trialIsTold 19 = .ok (.ldiv, 1) := by decide +kernel
theorem dX11_trialIsTold_20 : decode cX11_trialIsTold 20 = .ok (.l2i, 1) := by decide +kernel
theorem dX11_trialIsTold_21 : decode cX11_trialIsTold 21 = .ok (.istore_n 3, 1) := by decide +kernel
theorem dX11_trialIsTold_22 : decode cX11_trialIsTold 22 = .ok (.aload_n 0, 1) := by decide +kernel
theorem dX11_trialIsTold_23 : decode cX11_trialIsTold 23 = .ok (.getfield 79, 3) := by decide +kernel
theorem dX11_trialIsTold_26 : decode cX11_trialIsTold 26 = .ok (.iload_n 3, 1) := by decide +kernel
theorem dX11_trialIsTold_27 : decode cX11_trialIsTold 27 = .ok (.invokevirtual 317, 3) := by decide +kernel
theorem dX11_trialIsTold_30 : decode cX11_trialIsTold 30 = .ok (.bipush 100, 2) := by decide +kernel
theorem dX11_trialIsTold_32 : decode cX11_trialIsTold 32 = .ok (.idiv, 1) := by decide +kernel
theorem dX11_trialIsTold_33 : decode cX11_trialIsTold 33 = .ok (.i2l, 1) := by decide +kernel
theorem dX11_trialIsTold_34 : decode cX11_trialIsTold 34 = .ok (.aload_n 1, 1) := by decide +kernel
theorem dX11_trialIsTold_35 : decode cX11_trialIsTold 35 = .ok (.getfield 252, 3) := by decide +kernel
theorem dX11_trialIsTold_38 : decode cX11_trialIsTold 38 = .ok (.iload_n 2, 1) := by decide +kernel
theorem dX11_trialIsTold_39 : decode cX11_trialIsTold 39 = .ok (.laload, 1) := by decide +kernel
theorem dX11_trialIsTold_40 : decode cX11_trialIsTold 40 = .ok (.ldc2_w 371, 3) := by decide +kernel
theorem dX11_trialIsTold_43 : decode cX11_trialIsTold 43 = .ok (.lrem, 1) := by decide +kernel
theorem dX11_trialIsTold_44 : decode cX11_trialIsTold 44 = .ok (.lcmp, 1) := by decide +kernel
theorem dX11_trialIsTold_45 : decode cX11_trialIsTold 45 = .ok (.ifCond .eq 5, 3) := by decide +kernel
theorem dX11_trialIsTold_48 : decode cX11_trialIsTold 48 = .ok (.iconst 0, 1) := by decide +kernel
theorem dX11_trialIsTold_49 : decode cX11_trialIsTold 49 = .ok (.ireturn, 1) := by decide +kernel
theorem dX11_trialIsTold_50 : decode cX11_trialIsTold 50 = .ok (.iinc 2 1, 3) := by decide +kernel
theorem dX11_trialIsTold_53 : decode cX11_trialIsTold 53 = .ok (.goto (-51), 3) := by decide +kernel
theorem dX11_trialIsTold_56 : decode cX11_trialIsTold 56 = .ok (.iconst 1, 1) := by decide +kernel
theorem dX11_trialIsTold_57 : decode cX11_trialIsTold 57 = .ok (.ireturn, 1) := by decide +kernel
def f_X11_trialIsTold_2 (o0 : Nat) (m : zz_Mem)  : Nat → Int32 → Option Int32
  | 0, _ => none
  | n + 1, v2 =>
  if (m.1 o0 2) ≤ v2 then (
  some (1 : Int32))
  else (
  zz_ix v2 40 <|
  zz_letI (((m.2.1 (o0 + 1) v2.toNatClampNeg) / (100000000 : Int64)).toInt32) fun x1 =>
  zz_bndR (f_X1_factorAt 88 m x1) fun r2 =>
  zz_ix v2 40 <|
  if ((r2 / (100 : Int32)).toInt64) = ((m.2.1 (o0 + 1) v2.toNatClampNeg) - (m.2.1 (o0 + 1) v2.toNatClampNeg) / (100000000 : Int64) * (100000000 : Int64)) then (
  zz_letI (v2 + (1 : Int32)) fun x3 =>
  f_X11_trialIsTold_2 o0 m n x3)
  else (
  some (0 : Int32)))
theorem t_X11_trialIsTold_2 {l : Launch} {G : zz_G} (hN : 107 ≤ zz_N G) {o0 : Nat} (ho0 : zz_isTray G o0) {m : zz_Mem}  : ∀ (n : Nat) (v2 : Int32), zz_Sim zz_sh l G mX11_trialIsTold 2 zz_vIr (zz_mC m) (f_X11_trialIsTold_2 o0 m n v2) 2 [(0, .ref (zz_a G 0)), (1, .ref (zz_a G o0)), (2, .int v2)] [] m := by
  intro n
  induction n with
  | zero => intro _; exact zs_none
  | succ n ih =>
    intro v2
    rw [f_X11_trialIsTold_2]
    refine zs_iload_n dX11_trialIsTold_2 rfl 2 rfl ?_
    refine zs_aload_n dX11_trialIsTold_3 rfl 1 rfl ?_
    refine zs_getI fl_X11_251 dX11_trialIsTold_4 (ho0).1 rfl ?_
    refine zs_icmp_ge (tgt := 56) dX11_trialIsTold_7 (by decide) ?_ ?_
    · refine zs_iconst (v := (1 : Int32)) dX11_trialIsTold_56 ci_1 ?_
      exact zs_zret dX11_trialIsTold_57 rfl rfl rfl rfl
    · refine zs_aload_n dX11_trialIsTold_10 rfl 1 rfl ?_
      refine zs_getR fl_X11_252 dX11_trialIsTold_11 (ho0).1 rfl ?_
      refine zs_iload_n dX11_trialIsTold_14 rfl 2 rfl ?_
      refine zs_laldG dX11_trialIsTold_15 (ho0).2 ?_
      refine zs_ldc2 (v := (100000000 : Int64)) dX11_trialIsTold_16 kc_X11_371 ?_
      refine zs_ldiv dX11_trialIsTold_19 (by decide) ?_
      refine zs_l2i dX11_trialIsTold_20 ?_
      refine zs_letI (fun x1 => ?_)
      refine zs_istore_n [(3, .int x1), (0, .ref (zz_a G 0)), (1, .ref (zz_a G o0)), (2, .int v2)] dX11_trialIsTold_21 rfl (Nat.le_of_ble_eq_true rfl) rfl ?_
      refine zs_aload_n dX11_trialIsTold_22 rfl 1 rfl ?_
      refine zs_getR fl_X11_79 dX11_trialIsTold_23 (sh_0 hN) rfl ?_
      refine zs_iload_n dX11_trialIsTold_26 rfl 0 rfl ?_
      refine zs_cV_iR (rest := []) (k_X1_factorAt hN ((isCurve_88 hN)) _ _) dX11_trialIsTold_27 lv_X11_317 ok_X1_factorAt (zz_rcv_o (sh_88 hN) rfl) (Nat.le_of_ble_eq_true rfl) rfl rfl (Nat.le_of_ble_eq_true rfl) (fun r2 => ?_)
      refine zs_bipush (v := (100 : Int32)) dX11_trialIsTold_30 cb_100 ?_
      refine zs_idiv dX11_trialIsTold_32 (by decide) ?_
      refine zs_i2l dX11_trialIsTold_33 ?_
      refine zs_aload_n dX11_trialIsTold_34 rfl 2 rfl ?_
      refine zs_getR fl_X11_252 dX11_trialIsTold_35 (ho0).1 rfl ?_
      refine zs_iload_n dX11_trialIsTold_38 rfl 3 rfl ?_
      refine zs_laldG dX11_trialIsTold_39 (ho0).2 ?_
      refine zs_ldc2 (v := (100000000 : Int64)) dX11_trialIsTold_40 kc_X11_371 ?_
      refine zs_lrem dX11_trialIsTold_43 (by decide) ?_
      refine zs_lcmp_eq (tgt := 50) dX11_trialIsTold_44 dX11_trialIsTold_45 (by decide) ?_ ?_
      · refine zs_iinc (fun y => [(2, .int y), (3, .int x1), (0, .ref (zz_a G 0)), (1, .ref (zz_a G o0))]) dX11_trialIsTold_50 3 rfl ci_1 (Nat.le_of_ble_eq_true rfl) (fun _ => rfl) (fun x3 => ?_)
        refine zs_goto (tgt := 2) dX11_trialIsTold_53 (by decide) ?_
        refine zs_sub [2, 3, 0] rfl ?_
        exact ih _
      · refine zs_iconst (v := (0 : Int32)) dX11_trialIsTold_48 ci_0 ?_
        exact zs_zret dX11_trialIsTold_49 rfl rfl rfl rfl
def f_X11_trialIsTold (o0 : Nat) (m : zz_Mem)  : Option Int32 :=
  f_X11_trialIsTold_2 o0 m zz_fuel (0 : Int32)
theorem k_X11_trialIsTold {l : Launch} {G : zz_G} (hN : 107 ≤ zz_N G) {o0 : Nat} (ho0 : zz_isTray G o0) : ∀ (m : zz_Mem), zz_Con zz_sh l G mX11_trialIsTold 2 [.ref (zz_a G 0), .ref (zz_a G o0)] zz_vIr (zz_mC m) (f_X11_trialIsTold o0 m) m := by
  intro m
  refine zz_con (lv := [(0, .ref (zz_a G 0)), (1, .ref (zz_a G o0))]) (by decide +kernel) (Nat.le_of_ble_eq_true rfl) rfl ?_
  unfold f_X11_trialIsTold
  refine zs_iconst (v := (0 : Int32)) dX11_trialIsTold_0 ci_0 ?_
  refine zs_istore_n [(2, .int (0 : Int32)), (0, .ref (zz_a G 0)), (1, .ref (zz_a G o0))] dX11_trialIsTold_1 rfl (Nat.le_of_ble_eq_true rfl) rfl ?_
  refine zs_sub [1, 2, 0] rfl ?_
  exact t_X11_trialIsTold_2 hN ho0 zz_fuel _
/-! X11_shiftsTold: PillarDesk.shiftsTold(LPillarDesk$Tray;)I -/
theorem dX11_shiftsTold_0 : decode cX11_shiftsTold 0 = .ok (.iconst 0, 1) := by decide +kernel
theorem dX11_shiftsTold_1 : decode cX11_shiftsTold 1 = .ok (.istore_n 2, 1) := by decide +kernel
theorem dX11_shiftsTold_2 : decode cX11_shiftsTold 2 = .ok (.iconst 0, 1) := by decide +kernel
theorem dX11_shiftsTold_3 : decode cX11_shiftsTold 3 = .ok (.istore_n 3, 1) := by decide +kernel
theorem dX11_shiftsTold_4 : decode cX11_shiftsTold 4 = .ok (.iload_n 3, 1) := by decide +kernel
theorem dX11_shiftsTold_5 : decode cX11_shiftsTold 5 = .ok (.bipush 10, 2) := by decide +kernel
theorem dX11_shiftsTold_7 : decode cX11_shiftsTold 7 = .ok (.if_icmp .ge 99, 3) := by decide +kernel
theorem dX11_shiftsTold_10 : decode cX11_shiftsTold 10 = .ok (.aload_n 0, 1) := by decide +kernel
theorem dX11_shiftsTold_11 : decode cX11_shiftsTold 11 = .ok (.getfield 79, 3) := by decide +kernel
theorem dX11_shiftsTold_14 : decode cX11_shiftsTold 14 = .ok (.aload_n 0, 1) := by decide +kernel
theorem dX11_shiftsTold_15 : decode cX11_shiftsTold 15 = .ok (.getfield 20, 3) := by decide +kernel
theorem dX11_shiftsTold_18 : decode cX11_shiftsTold 18 = .ok (.getfield 160, 3) := by decide +kernel
theorem dX11_shiftsTold_21 : decode cX11_shiftsTold 21 = .ok (.iload_n 3, 1) := by decide +kernel
theorem dX11_shiftsTold_22 : decode cX11_shiftsTold 22 = .ok (.invokevirtual 268, 3) := by decide +kernel
theorem dX11_shiftsTold_25 : decode cX11_shiftsTold 25 = .ok (.aload_n 0, 1) := by decide +kernel
theorem dX11_shiftsTold_26 : decode cX11_shiftsTold 26 = .ok (.getfield 79, 3) := by decide +kernel
theorem dX11_shiftsTold_29 : decode cX11_shiftsTold 29 = .ok (.iconst 1, 1) := by decide +kernel
theorem dX11_shiftsTold_30 : decode cX11_shiftsTold 30 = .ok (.invokevirtual 272, 3) := by decide +kernel
theorem dX11_shiftsTold_33 : decode cX11_shiftsTold 33 = .ok (.iconst 0, 1) := by decide +kernel
theorem dX11_shiftsTold_34 : decode cX11_shiftsTold 34 = .ok (.istore 4, 2) := by decide +kernel
theorem dX11_shiftsTold_36 : decode cX11_shiftsTold 36 = .ok (.iload 4, 2) := by decide +kernel
theorem dX11_shiftsTold_38 : decode cX11_shiftsTold 38 = .ok (.aload_n 0, 1) := by decide +kernel
theorem dX11_shiftsTold_39 : decode cX11_shiftsTold 39 = .ok (.getfield 66, 3) := by decide +kernel
theorem dX11_shiftsTold_42 : decode cX11_shiftsTold 42 = .ok (.getfield 302, 3) := by decide +kernel
theorem dX11_shiftsTold_45 : decode cX11_shiftsTold 45 = .ok (.if_icmp .ge 41, 3) := by decide +kernel
theorem dX11_shiftsTold_48 : decode cX11_shiftsTold 48 = .ok (.iload 4, 2) := by decide +kernel
theorem dX11_shiftsTold_50 : decode cX11_shiftsTold 50 = .ok (.bipush 9, 2) := by decide +kernel
theorem dX11_shiftsTold_52 : decode cX11_shiftsTold 52 = .ok (.if_icmp .ge 34, 3) := by decide +kernel
theorem dX11_shiftsTold_55 : decode cX11_shiftsTold 55 = .ok (.aload_n 0, 1) := by decide +kernel
theorem dX11_shiftsTold_56 : decode cX11_shiftsTold 56 = .ok (.getfield 100, 3) := by decide +kernel
theorem dX11_shiftsTold_59 : decode cX11_shiftsTold 59 = .ok (.iload_n 3, 1) := by decide +kernel
theorem dX11_shiftsTold_60 : decode cX11_shiftsTold 60 = .ok (.bipush 9, 2) := by decide +kernel
theorem dX11_shiftsTold_62 : decode cX11_shiftsTold 62 = .ok (.imul, 1) := by decide +kernel
theorem dX11_shiftsTold_63 : decode cX11_shiftsTold 63 = .ok (.iload 4, 2) := by decide +kernel
theorem dX11_shiftsTold_65 : decode cX11_shiftsTold 65 = .ok (.iadd, 1) := by decide +kernel
theorem dX11_shiftsTold_66 : decode cX11_shiftsTold 66 = .ok (.aload_n 0, 1) := by decide +kernel
theorem dX11_shiftsTold_67 : decode cX11_shiftsTold 67 = .ok (.getfield 79, 3) := by decide +kernel
theorem dX11_shiftsTold_70 : decode cX11_shiftsTold 70 = .ok (.getfield 311, 3) := by decide +kernel
theorem dX11_shiftsTold_73 : decode cX11_shiftsTold 73 = .ok (.iload 4, 2) := by decide +kernel
theorem dX11_shiftsTold_75 : decode cX11_shiftsTold 75 = .ok (.iaload, 1) := by decide +kernel
theorem dX11_shiftsTold_76 : decode cX11_shiftsTold 76 = .ok (.bipush 100, 2) := by decide +kernel
theorem dX11_shiftsTold_78 : decode cX11_shiftsTold 78 = .ok (.idiv, 1) := by decide +kernel
theorem dX11_shiftsTold_79 : decode cX11_shiftsTold 79 = .ok (.iastore, 1) := by decide +kernel
theorem dX11_shiftsTold_80 : decode cX11_shiftsTold 80 = .ok (.iinc 4 1, 3) := by decide +kernel
theorem dX11_shiftsTold_83 : decode cX11_shiftsTold 83 = .ok (.goto (-47), 3) := by decide +kernel
theorem dX11_shiftsTold_86 : decode cX11_shiftsTold 86 = .ok (.aload_n 0, 1) := by decide +kernel
theorem dX11_shiftsTold_87 : decode cX11_shiftsTold 87 = .ok (.aload_n 1, 1) := by decide +kernel
theorem dX11_shiftsTold_88 : decode cX11_shiftsTold 88 = .ok (.invokevirtual 367, 3) := by decide +kernel
theorem dX11_shiftsTold_91 : decode cX11_shiftsTold 91 = .ok (.ifCond .eq 9, 3) := by decide +kernel
theorem dX11_shiftsTold_94 : decode cX11_shiftsTold 94 = .ok (.iload_n 2, 1) := by decide +kernel
theorem dX11_shiftsTold_95 : decode cX11_shiftsTold 95 = .ok (.iconst 1, 1) := by decide +kernel
theorem dX11_shiftsTold_96 : decode cX11_shiftsTold 96 = .ok (.iload_n 3, 1) := by decide +kernel
theorem dX11_shiftsTold_97 : decode cX11_shiftsTold 97 = .ok (.ishl, 1) := by decide +kernel
theorem dX11_shiftsTold_98 : decode cX11_shiftsTold 98 = .ok (.ior, 1) := by decide +kernel
theorem dX11_shiftsTold_99 : decode cX11_shiftsTold 99 = .ok (.istore_n 2, 1) := by decide +kernel
theorem dX11_shiftsTold_100 : decode cX11_shiftsTold 100 = .ok (.iinc 3 1, 3) := by decide +kernel
theorem dX11_shiftsTold_103 : decode cX11_shiftsTold 103 = .ok (.goto (-99), 3) := by decide +kernel
theorem dX11_shiftsTold_106 : decode cX11_shiftsTold 106 = .ok (.iload_n 2, 1) := by decide +kernel
theorem dX11_shiftsTold_107 : decode cX11_shiftsTold 107 = .ok (.ireturn, 1) := by decide +kernel
def f_X11_shiftsTold_86 (o0 : Nat) (k4 : Int32 → Int32 → zz_Mem → Option (Int32 × zz_Mem)) (v2 : Int32) (v3 : Int32) (m : zz_Mem) : Option (Int32 × zz_Mem) :=
  zz_bndR (f_X11_trialIsTold o0 m) fun r1 =>
  if r1 = 0 then (
  zz_letI (v3 + (1 : Int32)) fun x2 =>
  k4 v2 x2 m)
  else (
  zz_letI (v2 ||| ((1 : Int32) <<< (v3 &&& 31))) fun x3 =>
  zz_letI (v3 + (1 : Int32)) fun x4 =>
  k4 x3 x4 m)
theorem t_X11_shiftsTold_86 {l : Launch} {G : zz_G} (hN : 107 ≤ zz_N G) {o0 : Nat} (ho0 : zz_isTray G o0) {k4 : Int32 → Int32 → zz_Mem → Option (Int32 × zz_Mem)} (hk4 : ∀ (v2 : Int32) (v3 : Int32) (m : zz_Mem), zz_Sim zz_sh l G mX11_shiftsTold 5 zz_vI zz_m2 (k4 v2 v3 m) 4 [(0, .ref (zz_a G 0)), (1, .ref (zz_a G o0)), (2, .int v2), (3, .int v3)] [] m) : ∀ (v2 : Int32) (v3 : Int32) (m : zz_Mem), zz_Sim zz_sh l G mX11_shiftsTold 5 zz_vI zz_m2 (f_X11_shiftsTold_86 o0 k4 v2 v3 m) 86 [(0, .ref (zz_a G 0)), (1, .ref (zz_a G o0)), (2, .int v2), (3, .int v3)] [] m := by
  intro v2 v3 m
  unfold f_X11_shiftsTold_86
  refine zs_aload_n dX11_shiftsTold_86 rfl 0 rfl ?_
  refine zs_aload_n dX11_shiftsTold_87 rfl 1 rfl ?_
  refine zs_cV_iR (rest := []) (k_X11_trialIsTold hN (ho0)  _) dX11_shiftsTold_88 lv_X11_367 ok_X11_trialIsTold (zz_rcv_o (sh_0 hN) rfl) (Nat.le_of_ble_eq_true rfl) rfl rfl (Nat.le_of_ble_eq_true rfl) (fun r1 => ?_)
  refine zs_if_eq (tgt := 100) dX11_shiftsTold_91 (by decide) ?_ ?_
  · refine zs_iinc (fun y => [(3, .int y), (0, .ref (zz_a G 0)), (1, .ref (zz_a G o0)), (2, .int v2)]) dX11_shiftsTold_100 3 rfl ci_1 (Nat.le_of_ble_eq_true rfl) (fun _ => rfl) (fun x2 => ?_)
    refine zs_goto (tgt := 4) dX11_shiftsTold_103 (by decide) ?_
    refine zs_sub [1, 2, 3, 0] rfl ?_
    exact hk4 _ _ _
  · refine zs_iload_n dX11_shiftsTold_94 rfl 2 rfl ?_
    refine zs_iconst (v := (1 : Int32)) dX11_shiftsTold_95 ci_1 ?_
    refine zs_iload_n dX11_shiftsTold_96 rfl 3 rfl ?_
    refine zs_ishl dX11_shiftsTold_97 ?_
    refine zs_ior dX11_shiftsTold_98 ?_
    refine zs_letI (fun x3 => ?_)
    refine zs_istore_n [(2, .int x3), (0, .ref (zz_a G 0)), (1, .ref (zz_a G o0)), (3, .int v3)] dX11_shiftsTold_99 rfl (Nat.le_of_ble_eq_true rfl) rfl ?_
    refine zs_iinc (fun y => [(3, .int y), (2, .int x3), (0, .ref (zz_a G 0)), (1, .ref (zz_a G o0))]) dX11_shiftsTold_100 3 rfl ci_1 (Nat.le_of_ble_eq_true rfl) (fun _ => rfl) (fun x4 => ?_)
    refine zs_goto (tgt := 4) dX11_shiftsTold_103 (by decide) ?_
    refine zs_sub [2, 3, 1, 0] rfl ?_
    exact hk4 _ _ _
def f_X11_shiftsTold_36 (o0 : Nat) (k4 : Int32 → Int32 → zz_Mem → Option (Int32 × zz_Mem)) : Nat → Int32 → Int32 → Int32 → zz_Mem → Option (Int32 × zz_Mem)
  | 0, _, _, _, _ => none
  | n + 1, v2, v3, v4, m =>
  if (m.1 72 8) ≤ v4 then (
  f_X11_shiftsTold_86 o0 k4 v2 v3 m)
  else (
  if (9 : Int32) ≤ v4 then (
  f_X11_shiftsTold_86 o0 k4 v2 v3 m)
  else (
  zz_ix v4 9 <|
  zz_ix ((v3 * (9 : Int32)) + v4) 90 <| zz_letM (zz_setI m 98 ((v3 * (9 : Int32)) + v4).toNatClampNeg ((m.1 90 v4.toNatClampNeg) / (100 : Int32))) fun m1 =>
  zz_letI (v4 + (1 : Int32)) fun x2 =>
  f_X11_shiftsTold_36 o0 k4 n v2 v3 x2 m1))
theorem t_X11_shiftsTold_36 {l : Launch} {G : zz_G} (hN : 107 ≤ zz_N G) {o0 : Nat} (ho0 : zz_isTray G o0) {k4 : Int32 → Int32 → zz_Mem → Option (Int32 × zz_Mem)} (hk4 : ∀ (v2 : Int32) (v3 : Int32) (m : zz_Mem), zz_Sim zz_sh l G mX11_shiftsTold 5 zz_vI zz_m2 (k4 v2 v3 m) 4 [(0, .ref (zz_a G 0)), (1, .ref (zz_a G o0)), (2, .int v2), (3, .int v3)] [] m) : ∀ (n : Nat) (v2 : Int32) (v3 : Int32) (v4 : Int32) (m : zz_Mem), zz_Sim zz_sh l G mX11_shiftsTold 5 zz_vI zz_m2 (f_X11_shiftsTold_36 o0 k4 n v2 v3 v4 m) 36 [(0, .ref (zz_a G 0)), (1, .ref (zz_a G o0)), (2, .int v2), (3, .int v3), (4, .int v4)] [] m := by
  intro n
  induction n with
  | zero => intro _ _ _ _; exact zs_none
  | succ n ih =>
    intro v2 v3 v4 m
    rw [f_X11_shiftsTold_36]
    refine zs_iload dX11_shiftsTold_36 4 rfl ?_
    refine zs_aload_n dX11_shiftsTold_38 rfl 0 rfl ?_
    refine zs_getR fl_X11_66 dX11_shiftsTold_39 (sh_0 hN) rfl ?_
    refine zs_getI fl_X11_302 dX11_shiftsTold_42 (sh_72 hN) rfl ?_
    refine zs_icmp_ge (tgt := 86) dX11_shiftsTold_45 (by decide) ?_ ?_
    · refine zs_sub [0, 1, 2, 3] rfl ?_
      exact t_X11_shiftsTold_86 hN ho0 hk4 _ _ _
    · refine zs_iload dX11_shiftsTold_48 4 rfl ?_
      refine zs_bipush (v := (9 : Int32)) dX11_shiftsTold_50 cb_9 ?_
      refine zs_icmp_ge (tgt := 86) dX11_shiftsTold_52 (by decide) ?_ ?_
      · refine zs_sub [0, 1, 2, 3] rfl ?_
        exact t_X11_shiftsTold_86 hN ho0 hk4 _ _ _
      · refine zs_aload_n dX11_shiftsTold_55 rfl 0 rfl ?_
        refine zs_getR fl_X11_100 dX11_shiftsTold_56 (sh_0 hN) rfl ?_
        refine zs_iload_n dX11_shiftsTold_59 rfl 3 rfl ?_
        refine zs_bipush (v := (9 : Int32)) dX11_shiftsTold_60 cb_9 ?_
        refine zs_imul dX11_shiftsTold_62 ?_
        refine zs_iload dX11_shiftsTold_63 4 rfl ?_
        refine zs_iadd dX11_shiftsTold_65 ?_
        refine zs_aload_n dX11_shiftsTold_66 rfl 0 rfl ?_
        refine zs_getR fl_X11_79 dX11_shiftsTold_67 (sh_0 hN) rfl ?_
        refine zs_getR fl_X11_311 dX11_shiftsTold_70 (sh_88 hN) rfl ?_
        refine zs_iload dX11_shiftsTold_73 4 rfl ?_
        refine zs_ialdG dX11_shiftsTold_75 (sh_90 hN) ?_
        refine zs_bipush (v := (100 : Int32)) dX11_shiftsTold_76 cb_100 ?_
        refine zs_idiv dX11_shiftsTold_78 (by decide) ?_
        refine zs_iastG dX11_shiftsTold_79 (sh_98 hN) (fun m1 => ?_)
        refine zs_iinc (fun y => [(4, .int y), (0, .ref (zz_a G 0)), (1, .ref (zz_a G o0)), (2, .int v2), (3, .int v3)]) dX11_shiftsTold_80 4 rfl ci_1 (Nat.le_of_ble_eq_true rfl) (fun _ => rfl) (fun x2 => ?_)
        refine zs_goto (tgt := 36) dX11_shiftsTold_83 (by decide) ?_
        refine zs_sub [1, 2, 3, 4, 0] rfl ?_
        exact ih _ _ _ _
def f_X11_shiftsTold_4 (o0 : Nat)  : Nat → Int32 → Int32 → zz_Mem → Option (Int32 × zz_Mem)
  | 0, _, _, _ => none
  | n + 1, v2, v3, m =>
  if (10 : Int32) ≤ v3 then (
  some (v2, m))
  else (
  zz_bndR (f_X1_countRates 88 13 v3 m) fun m1 =>
  zz_bndR (f_X1_solve 88 (1 : Int32) m1) fun m2 =>
  f_X11_shiftsTold_36 o0 (f_X11_shiftsTold_4 o0 n) zz_fuel v2 v3 (0 : Int32) m2)
theorem t_X11_shiftsTold_4 {l : Launch} {G : zz_G} (hN : 107 ≤ zz_N G) {o0 : Nat} (ho0 : zz_isTray G o0)  : ∀ (n : Nat) (v2 : Int32) (v3 : Int32) (m : zz_Mem), zz_Sim zz_sh l G mX11_shiftsTold 5 zz_vI zz_m2 (f_X11_shiftsTold_4 o0 n v2 v3 m) 4 [(0, .ref (zz_a G 0)), (1, .ref (zz_a G o0)), (2, .int v2), (3, .int v3)] [] m := by
  intro n
  induction n with
  | zero => intro _ _ _; exact zs_none
  | succ n ih =>
    intro v2 v3 m
    rw [f_X11_shiftsTold_4]
    refine zs_iload_n dX11_shiftsTold_4 rfl 3 rfl ?_
    refine zs_bipush (v := (10 : Int32)) dX11_shiftsTold_5 cb_10 ?_
    refine zs_icmp_ge (tgt := 106) dX11_shiftsTold_7 (by decide) ?_ ?_
    · refine zs_iload_n dX11_shiftsTold_106 rfl 2 rfl ?_
      exact zs_iret dX11_shiftsTold_107 rfl rfl rfl
    · refine zs_aload_n dX11_shiftsTold_10 rfl 0 rfl ?_
      refine zs_getR fl_X11_79 dX11_shiftsTold_11 (sh_0 hN) rfl ?_
      refine zs_aload_n dX11_shiftsTold_14 rfl 0 rfl ?_
      refine zs_getR fl_X11_20 dX11_shiftsTold_15 (sh_0 hN) rfl ?_
      refine zs_getR fl_X11_160 dX11_shiftsTold_18 (sh_2 hN) rfl ?_
      refine zs_iload_n dX11_shiftsTold_21 rfl 3 rfl ?_
      refine zs_cV_vW (rest := []) (k_X1_countRates hN ((isCurve_88 hN)) ((isStand_13 hN)) _ _) dX11_shiftsTold_22 lv_X11_268 ok_X1_countRates (zz_rcv_o (sh_88 hN) rfl) (Nat.le_of_ble_eq_true rfl) rfl rfl (Nat.le_of_ble_eq_true rfl) (fun m1 => ?_)
      refine zs_aload_n dX11_shiftsTold_25 rfl 0 rfl ?_
      refine zs_getR fl_X11_79 dX11_shiftsTold_26 (sh_0 hN) rfl ?_
      refine zs_iconst (v := (1 : Int32)) dX11_shiftsTold_29 ci_1 ?_
      refine zs_cV_vW (rest := []) (k_X1_solve hN ((isCurve_88 hN)) _ _) dX11_shiftsTold_30 lv_X11_272 ok_X1_solve (zz_rcv_o (sh_88 hN) rfl) (Nat.le_of_ble_eq_true rfl) rfl rfl (Nat.le_of_ble_eq_true rfl) (fun m2 => ?_)
      refine zs_iconst (v := (0 : Int32)) dX11_shiftsTold_33 ci_0 ?_
      refine zs_istore [(4, .int (0 : Int32)), (0, .ref (zz_a G 0)), (1, .ref (zz_a G o0)), (2, .int v2), (3, .int v3)] dX11_shiftsTold_34 (Nat.le_of_ble_eq_true rfl) rfl ?_
      refine zs_sub [1, 2, 3, 4, 0] rfl ?_
      exact t_X11_shiftsTold_36 hN ho0 ih zz_fuel _ _ _ _
def f_X11_shiftsTold (o0 : Nat)  (m : zz_Mem) : Option (Int32 × zz_Mem) :=
  f_X11_shiftsTold_4 o0 zz_fuel (0 : Int32) (0 : Int32) m
theorem k_X11_shiftsTold {l : Launch} {G : zz_G} (hN : 107 ≤ zz_N G) {o0 : Nat} (ho0 : zz_isTray G o0) : ∀ (m : zz_Mem), zz_Con zz_sh l G mX11_shiftsTold 5 [.ref (zz_a G 0), .ref (zz_a G o0)] zz_vI zz_m2 (f_X11_shiftsTold o0 m) m := by
  intro m
  refine zz_con (lv := [(0, .ref (zz_a G 0)), (1, .ref (zz_a G o0))]) (by decide +kernel) (Nat.le_of_ble_eq_true rfl) rfl ?_
  unfold f_X11_shiftsTold
  refine zs_iconst (v := (0 : Int32)) dX11_shiftsTold_0 ci_0 ?_
  refine zs_istore_n [(2, .int (0 : Int32)), (0, .ref (zz_a G 0)), (1, .ref (zz_a G o0))] dX11_shiftsTold_1 rfl (Nat.le_of_ble_eq_true rfl) rfl ?_
  refine zs_iconst (v := (0 : Int32)) dX11_shiftsTold_2 ci_0 ?_
  refine zs_istore_n [(3, .int (0 : Int32)), (2, .int (0 : Int32)), (0, .ref (zz_a G 0)), (1, .ref (zz_a G o0))] dX11_shiftsTold_3 rfl (Nat.le_of_ble_eq_true rfl) rfl ?_
  refine zs_sub [2, 3, 1, 0] rfl ?_
  exact t_X11_shiftsTold_4 hN ho0 zz_fuel _ _ _
/-! X11_shifts: PillarDesk.shifts(I)I -/
theorem dX11_shifts_0 : decode cX11_shifts 0 = .ok (.aload_n 0, 1) := by decide +kernel
theorem dX11_shifts_1 : decode cX11_shifts 1 = .ok (.iload_n 1, 1) := by decide +kernel
theorem dX11_shifts_2 : decode cX11_shifts 2 = .ok (.invokevirtual 358, 3) := by decide +kernel
theorem dX11_shifts_5 : decode cX11_shifts 5 = .ok (.istore_n 2, 1) := by decide +kernel
theorem dX11_shifts_6 : decode cX11_shifts 6 = .ok (.iload_n 2, 1) := by decide +kernel
theorem dX11_shifts_7 : decode cX11_shifts 7 = .ok (.ifCond .eq 7, 3) := by decide +kernel
theorem dX11_shifts_10 : decode cX11_shifts 10 = .ok (.iload_n 2, 1) := by decide +kernel
theorem dX11_shifts_11 : decode cX11_shifts 11 = .ok (.goto 13, 3) := by decide +kernel
theorem dX11_shifts_14 : decode cX11_shifts 14 = .ok (.aload_n 0, 1) := by decide +kernel
theorem dX11_shifts_15 : decode cX11_shifts 15 = .ok (.aload_n 0, 1) := by decide +kernel
theorem dX11_shifts_16 : decode cX11_shifts 16 = .ok (.getfield 42, 3) := by decide +kernel
theorem dX11_shifts_19 : decode cX11_shifts 19 = .ok (.iload_n 1, 1) := by decide +kernel
theorem dX11_shifts_20 : decode cX11_shifts 20 = .ok (.aaload, 1) := by decide +kernel
theorem dX11_shifts_21 : decode cX11_shifts 21 = .ok (.invokevirtual 361, 3) := by decide +kernel
theorem dX11_shifts_24 : decode cX11_shifts 24 = .ok (.ireturn, 1) := by decide +kernel
def f_X11_shifts  (p1 : Int32) (m : zz_Mem) : Option (Int32 × zz_Mem) :=
  zz_bndR (f_X11_toldRefusal m p1) fun r1 =>
  if r1 = 0 then (
  zz_ix p1 4 <|
  zz_bnd (f_X11_shiftsTold (99 + 2 * p1.toNatClampNeg) m) fun r3 m4 =>
  some (r3, m4))
  else (
  some (r1, m))
theorem k_X11_shifts {l : Launch} {G : zz_G} (hN : 107 ≤ zz_N G) : ∀ (p1 : Int32) (m : zz_Mem), zz_Con zz_sh l G mX11_shifts 6 [.ref (zz_a G 0), .int p1] zz_vI zz_m2 (f_X11_shifts p1 m) m := by
  intro p1 m
  refine zz_con (lv := [(0, .ref (zz_a G 0)), (1, .int p1)]) (by decide +kernel) (Nat.le_of_ble_eq_true rfl) rfl ?_
  unfold f_X11_shifts
  refine zs_aload_n dX11_shifts_0 rfl 0 rfl ?_
  refine zs_iload_n dX11_shifts_1 rfl 1 rfl ?_
  refine zs_cV_iR (rest := []) (k_X11_toldRefusal hN _ _) dX11_shifts_2 lv_X11_358 ok_X11_toldRefusal (zz_rcv_o (sh_0 hN) rfl) (Nat.le_of_ble_eq_true rfl) rfl rfl (Nat.le_of_ble_eq_true rfl) (fun r1 => ?_)
  refine zs_istore_n [(2, .int r1), (0, .ref (zz_a G 0)), (1, .int p1)] dX11_shifts_5 rfl (Nat.le_of_ble_eq_true rfl) rfl ?_
  refine zs_iload_n dX11_shifts_6 rfl 0 rfl ?_
  refine zs_if_eq (tgt := 14) dX11_shifts_7 (by decide) ?_ ?_
  · refine zs_aload_n dX11_shifts_14 rfl 1 rfl ?_
    refine zs_aload_n dX11_shifts_15 rfl 1 rfl ?_
    refine zs_getR fl_X11_42 dX11_shifts_16 (sh_0 hN) rfl ?_
    refine zs_iload_n dX11_shifts_19 rfl 2 rfl ?_
    refine zs_aaldTray dX11_shifts_20 (sh_33 hN) (fun h2 => ?_)
    refine zs_cV_iW (rest := []) (k_X11_shiftsTold hN (isTrays hN h2)  _) dX11_shifts_21 lv_X11_361 ok_X11_shiftsTold (zz_rcv_o (sh_0 hN) rfl) (Nat.le_of_ble_eq_true rfl) rfl rfl (Nat.le_of_ble_eq_true rfl) (fun r3 m4 => ?_)
    exact zs_iret dX11_shifts_24 rfl rfl rfl
  · refine zs_iload_n dX11_shifts_10 rfl 0 rfl ?_
    refine zs_goto (tgt := 24) dX11_shifts_11 (by decide) ?_
    exact zs_iret dX11_shifts_24 rfl rfl rfl
/-! X11_mostAlike: PillarDesk.mostAlike(II)I -/
theorem dX11_mostAlike_0 : decode cX11_mostAlike 0 = .ok (.iconst 0, 1) := by decide +kernel
theorem dX11_mostAlike_1 : decode cX11_mostAlike 1 = .ok (.istore_n 3, 1) := by decide +kernel
theorem dX11_mostAlike_2 : decode cX11_mostAlike 2 = .ok (.iconst 0, 1) := by decide +kernel
theorem dX11_mostAlike_3 : decode cX11_mostAlike 3 = .ok (.istore 4, 2) := by decide +kernel
theorem dX11_mostAlike_5 : decode cX11_mostAlike 5 = .ok (.iload 4, 2) := by decide +kernel
theorem dX11_mostAlike_7 : decode cX11_mostAlike 7 = .ok (.bipush 10, 2) := by decide +kernel
theorem dX11_mostAlike_9 : decode cX11_mostAlike 9 = .ok (.if_icmp .ge 97, 3) := by decide +kernel
theorem dX11_mostAlike_12 : decode cX11_mostAlike 12 = .ok (.iconst 0, 1) := by decide +kernel
theorem dX11_mostAlike_13 : decode cX11_mostAlike 13 = .ok (.istore 5, 2) := by decide +kernel
theorem dX11_mostAlike_15 : decode cX11_mostAlike 15 = .ok (.iconst 0, 1) := by decide +kernel
theorem dX11_mostAlike_16 : decode cX11_mostAlike 16 = .ok (.istore 6, 2) := by decide +kernel
theorem dX11_mostAlike_18 : decode cX11_mostAlike 18 = .ok (.iload 6, 2) := by decide +kernel
theorem dX11_mostAlike_20 : decode cX11_mostAlike 20 = .ok (.bipush 10, 2) := by decide +kernel
theorem dX11_mostAlike_22 : decode cX11_mostAlike 22 = .ok (.if_icmp .ge 71, 3) := by decide +kernel
theorem dX11_mostAlike_25 : decode cX11_mostAlike 25 = .ok (.iload_n 1, 1) := by decide +kernel
theorem dX11_mostAlike_26 : decode cX11_mostAlike 26 = .ok (.iload 4, 2) := by decide +kernel
theorem dX11_mostAlike_28 : decode cX11_mostAlike 28 = .ok (.ishr, 1) := by decide +kernel
theorem dX11_mostAlike_29 : decode cX11_mostAlike 29 = .ok (.iconst 1, 1) := by decide +kernel
theorem dX11_mostAlike_30 : decode cX11_mostAlike 30 = .ok (.iand, 1) := by decide +kernel
theorem dX11_mostAlike_31 : decode cX11_mostAlike 31 = .ok (.iconst 1, 1) := by decide +kernel
theorem dX11_mostAlike_32 : decode cX11_mostAlike 32 = .ok (.if_icmp .ne 17, 3) := by decide +kernel
theorem dX11_mostAlike_35 : decode cX11_mostAlike 35 = .ok (.iload_n 1, 1) := by decide +kernel
theorem dX11_mostAlike_36 : decode cX11_mostAlike 36 = .ok (.iload 6, 2) := by decide +kernel
theorem dX11_mostAlike_38 : decode cX11_mostAlike 38 = .ok (.ishr, 1) := by decide +kernel
theorem dX11_mostAlike_39 : decode cX11_mostAlike 39 = .ok (.iconst 1, 1) := by decide +kernel
theorem dX11_mostAlike_40 : decode cX11_mostAlike 40 = .ok (.iand, 1) := by decide +kernel
theorem dX11_mostAlike_41 : decode cX11_mostAlike 41 = .ok (.iconst 1, 1) := by decide +kernel
theorem dX11_mostAlike_42 : decode cX11_mostAlike 42 = .ok (.if_icmp .ne 7, 3) := by decide +kernel
theorem dX11_mostAlike_45 : decode cX11_mostAlike 45 = .ok (.iconst 1, 1) := by decide +kernel
theorem dX11_mostAlike_46 : decode cX11_mostAlike 46 = .ok (.goto 4, 3) := by decide +kernel
theorem dX11_mostAlike_49 : decode cX11_mostAlike 49 = .ok (.iconst 0, 1) := by decide +kernel
theorem dX11_mostAlike_50 : decode cX11_mostAlike 50 = .ok (.istore 7, 2) := by decide +kernel
theorem dX11_mostAlike_52 : decode cX11_mostAlike 52 = .ok (.iload 7, 2) := by decide +kernel
theorem dX11_mostAlike_54 : decode cX11_mostAlike 54 = .ok (.ifCond .eq 33, 3) := by decide +kernel
theorem dX11_mostAlike_57 : decode cX11_mostAlike 57 = .ok (.aload_n 0, 1) := by decide +kernel
theorem dX11_mostAlike_58 : decode cX11_mostAlike 58 = .ok (.getfield 100, 3) := by decide +kernel
theorem dX11_mostAlike_61 : decode cX11_mostAlike 61 = .ok (.iload 4, 2) := by decide +kernel
theorem dX11_mostAlike_63 : decode cX11_mostAlike 63 = .ok (.bipush 9, 2) := by decide +kernel
theorem dX11_mostAlike_65 : decode cX11_mostAlike 65 = .ok (.imul, 1) := by decide +kernel
theorem dX11_mostAlike_66 : decode cX11_mostAlike 66 = .ok (.iload_n 2, 1) := by decide +kernel
theorem dX11_mostAlike_67 : decode cX11_mostAlike 67 = .ok (.iadd, 1) := by decide +kernel
theorem dX11_mostAlike_68 : decode cX11_mostAlike 68 = .ok (.iaload, 1) := by decide +kernel
theorem dX11_mostAlike_69 : decode cX11_mostAlike 69 = .ok (.aload_n 0, 1) := by decide +kernel
theorem dX11_mostAlike_70 : decode cX11_mostAlike 70 = .ok (.getfield 100, 3) := by decide +kernel
theorem dX11_mostAlike_73 : decode cX11_mostAlike 73 = .ok (.iload 6, 2) := by decide +kernel
theorem dX11_mostAlike_75 : decode cX11_mostAlike 75 = .ok (.bipush 9, 2) := by decide +kernel
theorem dX11_mostAlike_77 : decode cX11_mostAlike 77 = .ok (.imul, 1) := by decide +kernel
theorem dX11_mostAlike_78 : decode cX11_mostAlike 78 = .ok (.iload_n 2, 1) := by decide +kernel
theorem dX11_mostAlike_79 : decode cX11_mostAlike 79 = .ok (.iadd, 1) := by decide +kernel
theorem dX11_mostAlike_80 : decode cX11_mostAlike 80 = .ok (.iaload, 1) := by decide +kernel
theorem dX11_mostAlike_81 : decode cX11_mostAlike 81 = .ok (.if_icmp .ne 6, 3) := by decide +kernel
theorem dX11_mostAlike_84 : decode cX11_mostAlike 84 = .ok (.iinc 5 1, 3) := by decide +kernel
theorem dX11_mostAlike_87 : decode cX11_mostAlike 87 = .ok (.iinc 6 1, 3) := by decide +kernel
theorem dX11_mostAlike_90 : decode cX11_mostAlike 90 = .ok (.goto (-72), 3) := by decide +kernel
theorem dX11_mostAlike_93 : decode cX11_mostAlike 93 = .ok (.iload_n 3, 1) := by decide +kernel
theorem dX11_mostAlike_94 : decode cX11_mostAlike 94 = .ok (.iload 5, 2) := by decide +kernel
theorem dX11_mostAlike_96 : decode cX11_mostAlike 96 = .ok (.invokestatic 299, 3) := by decide +kernel
theorem dX11_mostAlike_99 : decode cX11_mostAlike 99 = .ok (.istore_n 3, 1) := by decide +kernel
theorem dX11_mostAlike_100 : decode cX11_mostAlike 100 = .ok (.iinc 4 1, 3) := by decide +kernel
theorem dX11_mostAlike_103 : decode cX11_mostAlike 103 = .ok (.goto (-98), 3) := by decide +kernel
theorem dX11_mostAlike_106 : decode cX11_mostAlike 106 = .ok (.iload_n 3, 1) := by decide +kernel
theorem dX11_mostAlike_107 : decode cX11_mostAlike 107 = .ok (.ireturn, 1) := by decide +kernel
def f_X11_mostAlike_93 (m : zz_Mem) (k5 : Int32 → Int32 → Int32 → Int32 → Option Int32) (v1 : Int32) (v2 : Int32) (v3 : Int32) (v4 : Int32) (v5 : Int32) : Option Int32 :=
  zz_bndR (f_J9_max_7cf53 v3 v5) fun r1 =>
  zz_letI (v4 + (1 : Int32)) fun x2 =>
  k5 v1 v2 r1 x2
theorem t_X11_mostAlike_93 {l : Launch} {G : zz_G} (hN : 107 ≤ zz_N G) {m : zz_Mem} {k5 : Int32 → Int32 → Int32 → Int32 → Option Int32} (hk5 : ∀ (v1 : Int32) (v2 : Int32) (v3 : Int32) (v4 : Int32), zz_Sim zz_sh l G mX11_mostAlike 1 zz_vIr (zz_mC m) (k5 v1 v2 v3 v4) 5 [(0, .ref (zz_a G 0)), (1, .int v1), (2, .int v2), (3, .int v3), (4, .int v4)] [] m) : ∀ (v1 : Int32) (v2 : Int32) (v3 : Int32) (v4 : Int32) (v5 : Int32), zz_Sim zz_sh l G mX11_mostAlike 1 zz_vIr (zz_mC m) (f_X11_mostAlike_93 m k5 v1 v2 v3 v4 v5) 93 [(0, .ref (zz_a G 0)), (1, .int v1), (2, .int v2), (3, .int v3), (4, .int v4), (5, .int v5)] [] m := by
  intro v1 v2 v3 v4 v5
  unfold f_X11_mostAlike_93
  refine zs_iload_n dX11_mostAlike_93 rfl 3 rfl ?_
  refine zs_iload dX11_mostAlike_94 5 rfl ?_
  refine zs_cS_iR (rest := []) (k_J9_max_7cf53 hN _ _ _) dX11_mostAlike_96 ls_X11_299 ok_J9_max_7cf53 (Nat.le_of_ble_eq_true rfl) rfl rfl (Nat.le_of_ble_eq_true rfl) (fun r1 => ?_)
  refine zs_istore_n [(3, .int r1), (0, .ref (zz_a G 0)), (1, .int v1), (2, .int v2), (4, .int v4), (5, .int v5)] dX11_mostAlike_99 rfl (Nat.le_of_ble_eq_true rfl) rfl ?_
  refine zs_iinc (fun y => [(4, .int y), (3, .int r1), (0, .ref (zz_a G 0)), (1, .int v1), (2, .int v2), (5, .int v5)]) dX11_mostAlike_100 4 rfl ci_1 (Nat.le_of_ble_eq_true rfl) (fun _ => rfl) (fun x2 => ?_)
  refine zs_goto (tgt := 5) dX11_mostAlike_103 (by decide) ?_
  refine zs_sub [2, 3, 4, 1, 0] rfl ?_
  exact hk5 _ _ _ _
def f_X11_mostAlike_50 (m : zz_Mem) (k5 : Int32 → Int32 → Int32 → Int32 → Option Int32) (k18 : Int32 → Int32 → Int32 → Int32 → Int32 → Int32 → Option Int32) (v1 : Int32) (v2 : Int32) (v3 : Int32) (v4 : Int32) (v5 : Int32) (v6 : Int32) (s0 : Int32) : Option Int32 :=
  if s0 = 0 then (
  zz_letI (v6 + (1 : Int32)) fun x1 =>
  k18 v1 v2 v3 v4 v5 x1)
  else (
  zz_ix ((v4 * (9 : Int32)) + v2) 90 <|
  zz_ix ((v6 * (9 : Int32)) + v2) 90 <|
  if (m.1 98 ((v4 * (9 : Int32)) + v2).toNatClampNeg) = (m.1 98 ((v6 * (9 : Int32)) + v2).toNatClampNeg) then (
  zz_letI (v5 + (1 : Int32)) fun x3 =>
  zz_letI (v6 + (1 : Int32)) fun x4 =>
  k18 v1 v2 v3 v4 x3 x4)
  else (
  zz_letI (v6 + (1 : Int32)) fun x2 =>
  k18 v1 v2 v3 v4 v5 x2))
theorem t_X11_mostAlike_50 {l : Launch} {G : zz_G} (hN : 107 ≤ zz_N G) {m : zz_Mem} {k5 : Int32 → Int32 → Int32 → Int32 → Option Int32} {k18 : Int32 → Int32 → Int32 → Int32 → Int32 → Int32 → Option Int32} (hk5 : ∀ (v1 : Int32) (v2 : Int32) (v3 : Int32) (v4 : Int32), zz_Sim zz_sh l G mX11_mostAlike 1 zz_vIr (zz_mC m) (k5 v1 v2 v3 v4) 5 [(0, .ref (zz_a G 0)), (1, .int v1), (2, .int v2), (3, .int v3), (4, .int v4)] [] m) (hk18 : ∀ (v1 : Int32) (v2 : Int32) (v3 : Int32) (v4 : Int32) (v5 : Int32) (v6 : Int32), zz_Sim zz_sh l G mX11_mostAlike 1 zz_vIr (zz_mC m) (k18 v1 v2 v3 v4 v5 v6) 18 [(0, .ref (zz_a G 0)), (1, .int v1), (2, .int v2), (3, .int v3), (4, .int v4), (5, .int v5), (6, .int v6)] [] m) : ∀ (v1 : Int32) (v2 : Int32) (v3 : Int32) (v4 : Int32) (v5 : Int32) (v6 : Int32) (s0 : Int32), zz_Sim zz_sh l G mX11_mostAlike 1 zz_vIr (zz_mC m) (f_X11_mostAlike_50 m k5 k18 v1 v2 v3 v4 v5 v6 s0) 50 [(0, .ref (zz_a G 0)), (1, .int v1), (2, .int v2), (3, .int v3), (4, .int v4), (5, .int v5), (6, .int v6)] [.int s0] m := by
  intro v1 v2 v3 v4 v5 v6 s0
  unfold f_X11_mostAlike_50
  refine zs_istore [(7, .int s0), (0, .ref (zz_a G 0)), (1, .int v1), (2, .int v2), (3, .int v3), (4, .int v4), (5, .int v5), (6, .int v6)] dX11_mostAlike_50 (Nat.le_of_ble_eq_true rfl) rfl ?_
  refine zs_iload dX11_mostAlike_52 0 rfl ?_
  refine zs_if_eq (tgt := 87) dX11_mostAlike_54 (by decide) ?_ ?_
  · refine zs_iinc (fun y => [(6, .int y), (7, .int s0), (0, .ref (zz_a G 0)), (1, .int v1), (2, .int v2), (3, .int v3), (4, .int v4), (5, .int v5)]) dX11_mostAlike_87 7 rfl ci_1 (Nat.le_of_ble_eq_true rfl) (fun _ => rfl) (fun x1 => ?_)
    refine zs_goto (tgt := 18) dX11_mostAlike_90 (by decide) ?_
    refine zs_sub [2, 3, 4, 5, 6, 7, 0] rfl ?_
    exact hk18 _ _ _ _ _ _
  · refine zs_aload_n dX11_mostAlike_57 rfl 1 rfl ?_
    refine zs_getR fl_X11_100 dX11_mostAlike_58 (sh_0 hN) rfl ?_
    refine zs_iload dX11_mostAlike_61 5 rfl ?_
    refine zs_bipush (v := (9 : Int32)) dX11_mostAlike_63 cb_9 ?_
    refine zs_imul dX11_mostAlike_65 ?_
    refine zs_iload_n dX11_mostAlike_66 rfl 3 rfl ?_
    refine zs_iadd dX11_mostAlike_67 ?_
    refine zs_ialdG dX11_mostAlike_68 (sh_98 hN) ?_
    refine zs_aload_n dX11_mostAlike_69 rfl 1 rfl ?_
    refine zs_getR fl_X11_100 dX11_mostAlike_70 (sh_0 hN) rfl ?_
    refine zs_iload dX11_mostAlike_73 7 rfl ?_
    refine zs_bipush (v := (9 : Int32)) dX11_mostAlike_75 cb_9 ?_
    refine zs_imul dX11_mostAlike_77 ?_
    refine zs_iload_n dX11_mostAlike_78 rfl 3 rfl ?_
    refine zs_iadd dX11_mostAlike_79 ?_
    refine zs_ialdG dX11_mostAlike_80 (sh_98 hN) ?_
    refine zs_icmp_ne (tgt := 87) dX11_mostAlike_81 (by decide) ?_ ?_
    · refine zs_iinc (fun y => [(6, .int y), (7, .int s0), (0, .ref (zz_a G 0)), (1, .int v1), (2, .int v2), (3, .int v3), (4, .int v4), (5, .int v5)]) dX11_mostAlike_87 7 rfl ci_1 (Nat.le_of_ble_eq_true rfl) (fun _ => rfl) (fun x2 => ?_)
      refine zs_goto (tgt := 18) dX11_mostAlike_90 (by decide) ?_
      refine zs_sub [2, 3, 4, 5, 6, 7, 0] rfl ?_
      exact hk18 _ _ _ _ _ _
    · refine zs_iinc (fun y => [(5, .int y), (7, .int s0), (0, .ref (zz_a G 0)), (1, .int v1), (2, .int v2), (3, .int v3), (4, .int v4), (6, .int v6)]) dX11_mostAlike_84 6 rfl ci_1 (Nat.le_of_ble_eq_true rfl) (fun _ => rfl) (fun x3 => ?_)
      refine zs_iinc (fun y => [(6, .int y), (5, .int x3), (7, .int s0), (0, .ref (zz_a G 0)), (1, .int v1), (2, .int v2), (3, .int v3), (4, .int v4)]) dX11_mostAlike_87 7 rfl ci_1 (Nat.le_of_ble_eq_true rfl) (fun _ => rfl) (fun x4 => ?_)
      refine zs_goto (tgt := 18) dX11_mostAlike_90 (by decide) ?_
      refine zs_sub [3, 4, 5, 6, 7, 1, 0] rfl ?_
      exact hk18 _ _ _ _ _ _
def f_X11_mostAlike_18 (m : zz_Mem) (k5 : Int32 → Int32 → Int32 → Int32 → Option Int32) : Nat → Int32 → Int32 → Int32 → Int32 → Int32 → Int32 → Option Int32
  | 0, _, _, _, _, _, _ => none
  | n + 1, v1, v2, v3, v4, v5, v6 =>
  if (10 : Int32) ≤ v6 then (
  f_X11_mostAlike_93 m k5 v1 v2 v3 v4 v5)
  else (
  if ((v1 >>> (v4 &&& 31)) &&& (1 : Int32)) = (1 : Int32) then (
  if ((v1 >>> (v6 &&& 31)) &&& (1 : Int32)) = (1 : Int32) then (
  f_X11_mostAlike_50 m k5 (f_X11_mostAlike_18 m k5 n) v1 v2 v3 v4 v5 v6 (1 : Int32))
  else (
  f_X11_mostAlike_50 m k5 (f_X11_mostAlike_18 m k5 n) v1 v2 v3 v4 v5 v6 (0 : Int32)))
  else (
  f_X11_mostAlike_50 m k5 (f_X11_mostAlike_18 m k5 n) v1 v2 v3 v4 v5 v6 (0 : Int32)))
theorem t_X11_mostAlike_18 {l : Launch} {G : zz_G} (hN : 107 ≤ zz_N G) {m : zz_Mem} {k5 : Int32 → Int32 → Int32 → Int32 → Option Int32} (hk5 : ∀ (v1 : Int32) (v2 : Int32) (v3 : Int32) (v4 : Int32), zz_Sim zz_sh l G mX11_mostAlike 1 zz_vIr (zz_mC m) (k5 v1 v2 v3 v4) 5 [(0, .ref (zz_a G 0)), (1, .int v1), (2, .int v2), (3, .int v3), (4, .int v4)] [] m) : ∀ (n : Nat) (v1 : Int32) (v2 : Int32) (v3 : Int32) (v4 : Int32) (v5 : Int32) (v6 : Int32), zz_Sim zz_sh l G mX11_mostAlike 1 zz_vIr (zz_mC m) (f_X11_mostAlike_18 m k5 n v1 v2 v3 v4 v5 v6) 18 [(0, .ref (zz_a G 0)), (1, .int v1), (2, .int v2), (3, .int v3), (4, .int v4), (5, .int v5), (6, .int v6)] [] m := by
  intro n
  induction n with
  | zero => intro _ _ _ _ _ _; exact zs_none
  | succ n ih =>
    intro v1 v2 v3 v4 v5 v6
    rw [f_X11_mostAlike_18]
    refine zs_iload dX11_mostAlike_18 6 rfl ?_
    refine zs_bipush (v := (10 : Int32)) dX11_mostAlike_20 cb_10 ?_
    refine zs_icmp_ge (tgt := 93) dX11_mostAlike_22 (by decide) ?_ ?_
    · refine zs_sub [0, 1, 2, 3, 4, 5] rfl ?_
      exact t_X11_mostAlike_93 hN hk5 _ _ _ _ _
    · refine zs_iload_n dX11_mostAlike_25 rfl 1 rfl ?_
      refine zs_iload dX11_mostAlike_26 4 rfl ?_
      refine zs_ishr dX11_mostAlike_28 ?_
      refine zs_iconst (v := (1 : Int32)) dX11_mostAlike_29 ci_1 ?_
      refine zs_iand dX11_mostAlike_30 ?_
      refine zs_iconst (v := (1 : Int32)) dX11_mostAlike_31 ci_1 ?_
      refine zs_icmp_ne (tgt := 49) dX11_mostAlike_32 (by decide) ?_ ?_
      · refine zs_iconst (v := (0 : Int32)) dX11_mostAlike_49 ci_0 ?_
        exact t_X11_mostAlike_50 hN hk5 ih _ _ _ _ _ _ _
      · refine zs_iload_n dX11_mostAlike_35 rfl 1 rfl ?_
        refine zs_iload dX11_mostAlike_36 6 rfl ?_
        refine zs_ishr dX11_mostAlike_38 ?_
        refine zs_iconst (v := (1 : Int32)) dX11_mostAlike_39 ci_1 ?_
        refine zs_iand dX11_mostAlike_40 ?_
        refine zs_iconst (v := (1 : Int32)) dX11_mostAlike_41 ci_1 ?_
        refine zs_icmp_ne (tgt := 49) dX11_mostAlike_42 (by decide) ?_ ?_
        · refine zs_iconst (v := (0 : Int32)) dX11_mostAlike_49 ci_0 ?_
          exact t_X11_mostAlike_50 hN hk5 ih _ _ _ _ _ _ _
        · refine zs_iconst (v := (1 : Int32)) dX11_mostAlike_45 ci_1 ?_
          refine zs_goto (tgt := 50) dX11_mostAlike_46 (by decide) ?_
          exact t_X11_mostAlike_50 hN hk5 ih _ _ _ _ _ _ _
def f_X11_mostAlike_5 (m : zz_Mem)  : Nat → Int32 → Int32 → Int32 → Int32 → Option Int32
  | 0, _, _, _, _ => none
  | n + 1, v1, v2, v3, v4 =>
  if (10 : Int32) ≤ v4 then (
  some v3)
  else (
  f_X11_mostAlike_18 m (f_X11_mostAlike_5 m n) zz_fuel v1 v2 v3 v4 (0 : Int32) (0 : Int32))
theorem t_X11_mostAlike_5 {l : Launch} {G : zz_G} (hN : 107 ≤ zz_N G) {m : zz_Mem}  : ∀ (n : Nat) (v1 : Int32) (v2 : Int32) (v3 : Int32) (v4 : Int32), zz_Sim zz_sh l G mX11_mostAlike 1 zz_vIr (zz_mC m) (f_X11_mostAlike_5 m n v1 v2 v3 v4) 5 [(0, .ref (zz_a G 0)), (1, .int v1), (2, .int v2), (3, .int v3), (4, .int v4)] [] m := by
  intro n
  induction n with
  | zero => intro _ _ _ _; exact zs_none
  | succ n ih =>
    intro v1 v2 v3 v4
    rw [f_X11_mostAlike_5]
    refine zs_iload dX11_mostAlike_5 4 rfl ?_
    refine zs_bipush (v := (10 : Int32)) dX11_mostAlike_7 cb_10 ?_
    refine zs_icmp_ge (tgt := 106) dX11_mostAlike_9 (by decide) ?_ ?_
    · refine zs_iload_n dX11_mostAlike_106 rfl 3 rfl ?_
      exact zs_iret dX11_mostAlike_107 rfl rfl rfl
    · refine zs_iconst (v := (0 : Int32)) dX11_mostAlike_12 ci_0 ?_
      refine zs_istore [(5, .int (0 : Int32)), (0, .ref (zz_a G 0)), (1, .int v1), (2, .int v2), (3, .int v3), (4, .int v4)] dX11_mostAlike_13 (Nat.le_of_ble_eq_true rfl) rfl ?_
      refine zs_iconst (v := (0 : Int32)) dX11_mostAlike_15 ci_0 ?_
      refine zs_istore [(6, .int (0 : Int32)), (5, .int (0 : Int32)), (0, .ref (zz_a G 0)), (1, .int v1), (2, .int v2), (3, .int v3), (4, .int v4)] dX11_mostAlike_16 (Nat.le_of_ble_eq_true rfl) rfl ?_
      refine zs_sub [2, 3, 4, 5, 6, 1, 0] rfl ?_
      exact t_X11_mostAlike_18 hN ih zz_fuel _ _ _ _ _ _
def f_X11_mostAlike (m : zz_Mem) (p1 : Int32) (p2 : Int32) : Option Int32 :=
  f_X11_mostAlike_5 m zz_fuel p1 p2 (0 : Int32) (0 : Int32)
theorem k_X11_mostAlike {l : Launch} {G : zz_G} (hN : 107 ≤ zz_N G) : ∀ (p1 : Int32) (p2 : Int32) (m : zz_Mem), zz_Con zz_sh l G mX11_mostAlike 1 [.ref (zz_a G 0), .int p1, .int p2] zz_vIr (zz_mC m) (f_X11_mostAlike m p1 p2) m := by
  intro p1 p2 m
  refine zz_con (lv := [(0, .ref (zz_a G 0)), (1, .int p1), (2, .int p2)]) (by decide +kernel) (Nat.le_of_ble_eq_true rfl) rfl ?_
  unfold f_X11_mostAlike
  refine zs_iconst (v := (0 : Int32)) dX11_mostAlike_0 ci_0 ?_
  refine zs_istore_n [(3, .int (0 : Int32)), (0, .ref (zz_a G 0)), (1, .int p1), (2, .int p2)] dX11_mostAlike_1 rfl (Nat.le_of_ble_eq_true rfl) rfl ?_
  refine zs_iconst (v := (0 : Int32)) dX11_mostAlike_2 ci_0 ?_
  refine zs_istore [(4, .int (0 : Int32)), (3, .int (0 : Int32)), (0, .ref (zz_a G 0)), (1, .int p1), (2, .int p2)] dX11_mostAlike_3 (Nat.le_of_ble_eq_true rfl) rfl ?_
  refine zs_sub [2, 3, 4, 1, 0] rfl ?_
  exact t_X11_mostAlike_5 hN zz_fuel _ _ _ _
/-! X11_ask: PillarDesk.ask(I)I -/
theorem dX11_ask_0 : decode cX11_ask 0 = .ok (.aload_n 0, 1) := by decide +kernel
theorem dX11_ask_1 : decode cX11_ask 1 = .ok (.iload_n 1, 1) := by decide +kernel
theorem dX11_ask_2 : decode cX11_ask 2 = .ok (.invokevirtual 358, 3) := by decide +kernel
theorem dX11_ask_5 : decode cX11_ask 5 = .ok (.istore_n 2, 1) := by decide +kernel
theorem dX11_ask_6 : decode cX11_ask 6 = .ok (.iload_n 2, 1) := by decide +kernel
theorem dX11_ask_7 : decode cX11_ask 7 = .ok (.ifCond .eq 5, 3) := by decide +kernel
theorem dX11_ask_10 : decode cX11_ask 10 = .ok (.iload_n 2, 1) := by decide +kernel
theorem dX11_ask_11 : decode cX11_ask 11 = .ok (.ireturn, 1) := by decide +kernel
theorem dX11_ask_12 : decode cX11_ask 12 = .ok (.aload_n 0, 1) := by decide +kernel
theorem dX11_ask_13 : decode cX11_ask 13 = .ok (.aload_n 0, 1) := by decide +kernel
theorem dX11_ask_14 : decode cX11_ask 14 = .ok (.getfield 42, 3) := by decide +kernel
theorem dX11_ask_17 : decode cX11_ask 17 = .ok (.iload_n 1, 1) := by decide +kernel
theorem dX11_ask_18 : decode cX11_ask 18 = .ok (.aaload, 1) := by decide +kernel
theorem dX11_ask_19 : decode cX11_ask 19 = .ok (.invokevirtual 361, 3) := by decide +kernel
theorem dX11_ask_22 : decode cX11_ask 22 = .ok (.istore_n 3, 1) := by decide +kernel
theorem dX11_ask_23 : decode cX11_ask 23 = .ok (.iload_n 3, 1) := by decide +kernel
theorem dX11_ask_24 : decode cX11_ask 24 = .ok (.ifCond .ne 5, 3) := by decide +kernel
theorem dX11_ask_27 : decode cX11_ask 27 = .ok (.iconst (-1), 1) := by decide +kernel
theorem dX11_ask_28 : decode cX11_ask 28 = .ok (.ireturn, 1) := by decide +kernel
theorem dX11_ask_29 : decode cX11_ask 29 = .ok (.iconst 0, 1) := by decide +kernel
theorem dX11_ask_30 : decode cX11_ask 30 = .ok (.istore 4, 2) := by decide +kernel
theorem dX11_ask_32 : decode cX11_ask 32 = .ok (.bipush 11, 2) := by decide +kernel
theorem dX11_ask_34 : decode cX11_ask 34 = .ok (.istore 5, 2) := by decide +kernel
theorem dX11_ask_36 : decode cX11_ask 36 = .ok (.iconst 0, 1) := by decide +kernel
theorem dX11_ask_37 : decode cX11_ask 37 = .ok (.istore 6, 2) := by decide +kernel
theorem dX11_ask_39 : decode cX11_ask 39 = .ok (.iload 6, 2) := by decide +kernel
theorem dX11_ask_41 : decode cX11_ask 41 = .ok (.aload_n 0, 1) := by decide +kernel
theorem dX11_ask_42 : decode cX11_ask 42 = .ok (.getfield 66, 3) := by decide +kernel
theorem dX11_ask_45 : decode cX11_ask 45 = .ok (.getfield 302, 3) := by decide +kernel
theorem dX11_ask_48 : decode cX11_ask 48 = .ok (.if_icmp .ge 48, 3) := by decide +kernel
theorem dX11_ask_51 : decode cX11_ask 51 = .ok (.iload 6, 2) := by decide +kernel
theorem dX11_ask_53 : decode cX11_ask 53 = .ok (.bipush 9, 2) := by decide +kernel
theorem dX11_ask_55 : decode cX11_ask 55 = .ok (.if_icmp .ge 41, 3) := by decide +kernel
theorem dX11_ask_58 : decode cX11_ask 58 = .ok (.aload_n 0, 1) := by decide +kernel
theorem dX11_ask_59 : decode cX11_ask 59 = .ok (.iload_n 3, 1) := by decide +kernel
theorem dX11_ask_60 : decode cX11_ask 60 = .ok (.iload 6, 2) := by decide +kernel
theorem dX11_ask_62 : decode cX11_ask 62 = .ok (.invokevirtual 373, 3) := by decide +kernel
theorem dX11_ask_65 : decode cX11_ask 65 = .ok (.istore 7, 2) := by decide +kernel
theorem dX11_ask_67 : decode cX11_ask 67 = .ok (.iload 7, 2) := by decide +kernel
theorem dX11_ask_69 : decode cX11_ask 69 = .ok (.iload 5, 2) := by decide +kernel
theorem dX11_ask_71 : decode cX11_ask 71 = .ok (.if_icmp .ge 19, 3) := by decide +kernel
theorem dX11_ask_74 : decode cX11_ask 74 = .ok (.iload 7, 2) := by decide +kernel
theorem dX11_ask_76 : decode cX11_ask 76 = .ok (.istore 5, 2) := by decide +kernel
theorem dX11_ask_78 : decode cX11_ask 78 = .ok (.aload_n 0, 1) := by decide +kernel
theorem dX11_ask_79 : decode cX11_ask 79 = .ok (.getfield 66, 3) := by decide +kernel
theorem dX11_ask_82 : decode cX11_ask 82 = .ok (.getfield 308, 3) := by decide +kernel
theorem dX11_ask_85 : decode cX11_ask 85 = .ok (.iload 6, 2) := by decide +kernel
theorem dX11_ask_87 : decode cX11_ask 87 = .ok (.iaload, 1) := by decide +kernel
theorem dX11_ask_88 : decode cX11_ask 88 = .ok (.istore 4, 2) := by decide +kernel
theorem dX11_ask_90 : decode cX11_ask 90 = .ok (.iinc 6 1, 3) := by decide +kernel
theorem dX11_ask_93 : decode cX11_ask 93 = .ok (.goto (-54), 3) := by decide +kernel
theorem dX11_ask_96 : decode cX11_ask 96 = .ok (.iload 4, 2) := by decide +kernel
theorem dX11_ask_98 : decode cX11_ask 98 = .ok (.ireturn, 1) := by decide +kernel
def f_X11_ask_39   : Nat → Int32 → Int32 → Int32 → Int32 → zz_Mem → Option (Int32 × zz_Mem)
  | 0, _, _, _, _, _ => none
  | n + 1, v3, v4, v5, v6, m =>
  if (m.1 72 8) ≤ v6 then (
  some (v4, m))
  else (
  if (9 : Int32) ≤ v6 then (
  some (v4, m))
  else (
  zz_bndR (f_X11_mostAlike m v3 v6) fun r1 =>
  if v5 ≤ r1 then (
  zz_letI (v6 + (1 : Int32)) fun x2 =>
  f_X11_ask_39 n v3 v4 v5 x2 m)
  else (
  zz_ix v6 9 <|
  zz_letI (m.1 79 v6.toNatClampNeg) fun x3 =>
  zz_letI (v6 + (1 : Int32)) fun x4 =>
  f_X11_ask_39 n v3 x3 r1 x4 m)))
theorem t_X11_ask_39 {l : Launch} {G : zz_G} (hN : 107 ≤ zz_N G)  : ∀ (n : Nat) (v3 : Int32) (v4 : Int32) (v5 : Int32) (v6 : Int32) (m : zz_Mem), zz_Sim zz_sh l G mX11_ask 6 zz_vI zz_m2 (f_X11_ask_39 n v3 v4 v5 v6 m) 39 [(0, .ref (zz_a G 0)), (3, .int v3), (4, .int v4), (5, .int v5), (6, .int v6)] [] m := by
  intro n
  induction n with
  | zero => intro _ _ _ _ _; exact zs_none
  | succ n ih =>
    intro v3 v4 v5 v6 m
    rw [f_X11_ask_39]
    refine zs_iload dX11_ask_39 4 rfl ?_
    refine zs_aload_n dX11_ask_41 rfl 0 rfl ?_
    refine zs_getR fl_X11_66 dX11_ask_42 (sh_0 hN) rfl ?_
    refine zs_getI fl_X11_302 dX11_ask_45 (sh_72 hN) rfl ?_
    refine zs_icmp_ge (tgt := 96) dX11_ask_48 (by decide) ?_ ?_
    · refine zs_iload dX11_ask_96 2 rfl ?_
      exact zs_iret dX11_ask_98 rfl rfl rfl
    · refine zs_iload dX11_ask_51 4 rfl ?_
      refine zs_bipush (v := (9 : Int32)) dX11_ask_53 cb_9 ?_
      refine zs_icmp_ge (tgt := 96) dX11_ask_55 (by decide) ?_ ?_
      · refine zs_iload dX11_ask_96 2 rfl ?_
        exact zs_iret dX11_ask_98 rfl rfl rfl
      · refine zs_aload_n dX11_ask_58 rfl 0 rfl ?_
        refine zs_iload_n dX11_ask_59 rfl 1 rfl ?_
        refine zs_iload dX11_ask_60 4 rfl ?_
        refine zs_cV_iR (rest := []) (k_X11_mostAlike hN _ _ _) dX11_ask_62 lv_X11_373 ok_X11_mostAlike (zz_rcv_o (sh_0 hN) rfl) (Nat.le_of_ble_eq_true rfl) rfl rfl (Nat.le_of_ble_eq_true rfl) (fun r1 => ?_)
        refine zs_istore [(7, .int r1), (0, .ref (zz_a G 0)), (3, .int v3), (4, .int v4), (5, .int v5), (6, .int v6)] dX11_ask_65 (Nat.le_of_ble_eq_true rfl) rfl ?_
        refine zs_iload dX11_ask_67 0 rfl ?_
        refine zs_iload dX11_ask_69 4 rfl ?_
        refine zs_icmp_ge (tgt := 90) dX11_ask_71 (by decide) ?_ ?_
        · refine zs_iinc (fun y => [(6, .int y), (7, .int r1), (0, .ref (zz_a G 0)), (3, .int v3), (4, .int v4), (5, .int v5)]) dX11_ask_90 5 rfl ci_1 (Nat.le_of_ble_eq_true rfl) (fun _ => rfl) (fun x2 => ?_)
          refine zs_goto (tgt := 39) dX11_ask_93 (by decide) ?_
          refine zs_sub [2, 3, 4, 5, 0] rfl ?_
          exact ih _ _ _ _ _
        · refine zs_iload dX11_ask_74 0 rfl ?_
          refine zs_istore [(5, .int r1), (7, .int r1), (0, .ref (zz_a G 0)), (3, .int v3), (4, .int v4), (6, .int v6)] dX11_ask_76 (Nat.le_of_ble_eq_true rfl) rfl ?_
          refine zs_aload_n dX11_ask_78 rfl 2 rfl ?_
          refine zs_getR fl_X11_66 dX11_ask_79 (sh_0 hN) rfl ?_
          refine zs_getR fl_X11_308 dX11_ask_82 (sh_72 hN) rfl ?_
          refine zs_iload dX11_ask_85 5 rfl ?_
          refine zs_ialdG dX11_ask_87 (sh_79 hN) ?_
          refine zs_letI (fun x3 => ?_)
          refine zs_istore [(4, .int x3), (5, .int r1), (7, .int r1), (0, .ref (zz_a G 0)), (3, .int v3), (6, .int v6)] dX11_ask_88 (Nat.le_of_ble_eq_true rfl) rfl ?_
          refine zs_iinc (fun y => [(6, .int y), (4, .int x3), (5, .int r1), (7, .int r1), (0, .ref (zz_a G 0)), (3, .int v3)]) dX11_ask_90 5 rfl ci_1 (Nat.le_of_ble_eq_true rfl) (fun _ => rfl) (fun x4 => ?_)
          refine zs_goto (tgt := 39) dX11_ask_93 (by decide) ?_
          refine zs_sub [4, 5, 1, 2, 0] rfl ?_
          exact ih _ _ _ _ _
def f_X11_ask  (p1 : Int32) (m : zz_Mem) : Option (Int32 × zz_Mem) :=
  zz_bndR (f_X11_toldRefusal m p1) fun r1 =>
  if r1 = 0 then (
  zz_ix p1 4 <|
  zz_bnd (f_X11_shiftsTold (99 + 2 * p1.toNatClampNeg) m) fun r3 m4 =>
  if r3 = 0 then (
  some ((-1 : Int32), m4))
  else (
  f_X11_ask_39 zz_fuel r3 (0 : Int32) (11 : Int32) (0 : Int32) m4))
  else (
  some (r1, m))
theorem k_X11_ask {l : Launch} {G : zz_G} (hN : 107 ≤ zz_N G) : ∀ (p1 : Int32) (m : zz_Mem), zz_Con zz_sh l G mX11_ask 6 [.ref (zz_a G 0), .int p1] zz_vI zz_m2 (f_X11_ask p1 m) m := by
  intro p1 m
  refine zz_con (lv := [(0, .ref (zz_a G 0)), (1, .int p1)]) (by decide +kernel) (Nat.le_of_ble_eq_true rfl) rfl ?_
  unfold f_X11_ask
  refine zs_aload_n dX11_ask_0 rfl 0 rfl ?_
  refine zs_iload_n dX11_ask_1 rfl 1 rfl ?_
  refine zs_cV_iR (rest := []) (k_X11_toldRefusal hN _ _) dX11_ask_2 lv_X11_358 ok_X11_toldRefusal (zz_rcv_o (sh_0 hN) rfl) (Nat.le_of_ble_eq_true rfl) rfl rfl (Nat.le_of_ble_eq_true rfl) (fun r1 => ?_)
  refine zs_istore_n [(2, .int r1), (0, .ref (zz_a G 0)), (1, .int p1)] dX11_ask_5 rfl (Nat.le_of_ble_eq_true rfl) rfl ?_
  refine zs_iload_n dX11_ask_6 rfl 0 rfl ?_
  refine zs_if_eq (tgt := 12) dX11_ask_7 (by decide) ?_ ?_
  · refine zs_aload_n dX11_ask_12 rfl 1 rfl ?_
    refine zs_aload_n dX11_ask_13 rfl 1 rfl ?_
    refine zs_getR fl_X11_42 dX11_ask_14 (sh_0 hN) rfl ?_
    refine zs_iload_n dX11_ask_17 rfl 2 rfl ?_
    refine zs_aaldTray dX11_ask_18 (sh_33 hN) (fun h2 => ?_)
    refine zs_cV_iW (rest := []) (k_X11_shiftsTold hN (isTrays hN h2)  _) dX11_ask_19 lv_X11_361 ok_X11_shiftsTold (zz_rcv_o (sh_0 hN) rfl) (Nat.le_of_ble_eq_true rfl) rfl rfl (Nat.le_of_ble_eq_true rfl) (fun r3 m4 => ?_)
    refine zs_istore_n [(3, .int r3), (2, .int r1), (0, .ref (zz_a G 0)), (1, .int p1)] dX11_ask_22 rfl (Nat.le_of_ble_eq_true rfl) rfl ?_
    refine zs_iload_n dX11_ask_23 rfl 0 rfl ?_
    refine zs_if_ne (tgt := 29) dX11_ask_24 (by decide) ?_ ?_
    · refine zs_iconst (v := (0 : Int32)) dX11_ask_29 ci_0 ?_
      refine zs_istore [(4, .int (0 : Int32)), (3, .int r3), (2, .int r1), (0, .ref (zz_a G 0)), (1, .int p1)] dX11_ask_30 (Nat.le_of_ble_eq_true rfl) rfl ?_
      refine zs_bipush (v := (11 : Int32)) dX11_ask_32 cb_11 ?_
      refine zs_istore [(5, .int (11 : Int32)), (4, .int (0 : Int32)), (3, .int r3), (2, .int r1), (0, .ref (zz_a G 0)), (1, .int p1)] dX11_ask_34 (Nat.le_of_ble_eq_true rfl) rfl ?_
      refine zs_iconst (v := (0 : Int32)) dX11_ask_36 ci_0 ?_
      refine zs_istore [(6, .int (0 : Int32)), (5, .int (11 : Int32)), (4, .int (0 : Int32)), (3, .int r3), (2, .int r1), (0, .ref (zz_a G 0)), (1, .int p1)] dX11_ask_37 (Nat.le_of_ble_eq_true rfl) rfl ?_
      refine zs_sub [5, 3, 2, 1, 0] rfl ?_
      exact t_X11_ask_39 hN zz_fuel _ _ _ _ _
    · refine zs_iconst (v := (-1 : Int32)) dX11_ask_27 ci_m1 ?_
      exact zs_iret dX11_ask_28 rfl rfl rfl
  · refine zs_iload_n dX11_ask_10 rfl 0 rfl ?_
    exact zs_iret dX11_ask_11 rfl rfl rfl
/-! X11_chance: PillarDesk.chance(IJII)I -/
theorem dX11_chance_0 : decode cX11_chance 0 = .ok (.iload 5, 2) := by decide +kernel
theorem dX11_chance_2 : decode cX11_chance 2 = .ok (.ifCond .lt 9, 3) := by decide +kernel
theorem dX11_chance_5 : decode cX11_chance 5 = .ok (.iload 5, 2) := by decide +kernel
theorem dX11_chance_7 : decode cX11_chance 7 = .ok (.iconst 1, 1) := by decide +kernel
theorem dX11_chance_8 : decode cX11_chance 8 = .ok (.if_icmp .le 6, 3) := by decide +kernel
theorem dX11_chance_11 : decode cX11_chance 11 = .ok (.bipush (-2), 2) := by decide +kernel
theorem dX11_chance_13 : decode cX11_chance 13 = .ok (.ireturn, 1) := by decide +kernel
theorem dX11_chance_14 : decode cX11_chance 14 = .ok (.iload_n 1, 1) := by decide +kernel
theorem dX11_chance_15 : decode cX11_chance 15 = .ok (.bipush (-99), 2) := by decide +kernel
theorem dX11_chance_17 : decode cX11_chance 17 = .ok (.if_icmp .lt 36, 3) := by decide +kernel
theorem dX11_chance_20 : decode cX11_chance 20 = .ok (.iload_n 1, 1) := by decide +kernel
theorem dX11_chance_21 : decode cX11_chance 21 = .ok (.bipush 99, 2) := by decide +kernel
theorem dX11_chance_23 : decode cX11_chance 23 = .ok (.if_icmp .gt 30, 3) := by decide +kernel
theorem dX11_chance_26 : decode cX11_chance 26 = .ok (.lload_n 2, 1) := by decide +kernel
theorem dX11_chance_27 : decode cX11_chance 27 = .ok (.ldc2_w 376, 3) := by decide +kernel
theorem dX11_chance_30 : decode cX11_chance 30 = .ok (.lcmp, 1) := by decide +kernel
theorem dX11_chance_31 : decode cX11_chance 31 = .ok (.ifCond .lt 22, 3) := by decide +kernel
theorem dX11_chance_34 : decode cX11_chance 34 = .ok (.lload_n 2, 1) := by decide +kernel
theorem dX11_chance_35 : decode cX11_chance 35 = .ok (.ldc2_w 378, 3) := by decide +kernel
theorem dX11_chance_38 : decode cX11_chance 38 = .ok (.lcmp, 1) := by decide +kernel
theorem dX11_chance_39 : decode cX11_chance 39 = .ok (.ifCond .gt 14, 3) := by decide +kernel
theorem dX11_chance_42 : decode cX11_chance 42 = .ok (.iload 4, 2) := by decide +kernel
theorem dX11_chance_44 : decode cX11_chance 44 = .ok (.ifCond .lt 9, 3) := by decide +kernel
theorem dX11_chance_47 : decode cX11_chance 47 = .ok (.iload 4, 2) := by decide +kernel
theorem dX11_chance_49 : decode cX11_chance 49 = .ok (.iconst 3, 1) := by decide +kernel
theorem dX11_chance_50 : decode cX11_chance 50 = .ok (.if_icmp .le 6, 3) := by decide +kernel
theorem dX11_chance_53 : decode cX11_chance 53 = .ok (.bipush (-3), 2) := by decide +kernel
theorem dX11_chance_55 : decode cX11_chance 55 = .ok (.ireturn, 1) := by decide +kernel
theorem dX11_chance_56 : decode cX11_chance 56 = .ok (.aload_n 0, 1) := by decide +kernel
theorem dX11_chance_57 : decode cX11_chance 57 = .ok (.invokevirtual 166, 3) := by decide +kernel
theorem dX11_chance_60 : decode cX11_chance 60 = .ok (.pop, 1) := by decide +kernel
theorem dX11_chance_61 : decode cX11_chance 61 = .ok (.aload_n 0, 1) := by decide +kernel
theorem dX11_chance_62 : decode cX11_chance 62 = .ok (.getfield 96, 3) := by decide +kernel
theorem dX11_chance_65 : decode cX11_chance 65 = .ok (.iload_n 1, 1) := by decide +kernel
theorem dX11_chance_66 : decode cX11_chance 66 = .ok (.iload 4, 2) := by decide +kernel
theorem dX11_chance_68 : decode cX11_chance 68 = .ok (.ldc2_w 380, 3) := by decide +kernel
theorem dX11_chance_71 : decode cX11_chance 71 = .ok (.lload_n 2, 1) := by decide +kernel
theorem dX11_chance_72 : decode cX11_chance 72 = .ok (.lmul, 1) := by decide +kernel
theorem dX11_chance_73 : decode cX11_chance 73 = .ok (.invokevirtual 382, 3) := by decide +kernel
theorem dX11_chance_76 : decode cX11_chance 76 = .ok (.aload_n 0, 1) := by decide +kernel
theorem dX11_chance_77 : decode cX11_chance 77 = .ok (.getfield 96, 3) := by decide +kernel
theorem dX11_chance_80 : decode cX11_chance 80 = .ok (.getfield 386, 3) := by decide +kernel
theorem dX11_chance_83 : decode cX11_chance 83 = .ok (.aload_n 0, 1) := by decide +kernel
theorem dX11_chance_84 : decode cX11_chance 84 = .ok (.getfield 96, 3) := by decide +kernel
theorem dX11_chance_87 : decode cX11_chance 87 = .ok (.getfield 390, 3) := by decide +kernel
theorem dX11_chance_90 : decode cX11_chance 90 = .ok (.iload 5, 2) := by decide +kernel
theorem dX11_chance_92 : decode cX11_chance 92 = .ok (.invokestatic 393, 3) := by decide +kernel
theorem dX11_chance_95 : decode cX11_chance 95 = .ok (.l2i, 1) := by decide +kernel
theorem dX11_chance_96 : decode cX11_chance 96 = .ok (.ireturn, 1) := by decide +kernel
def f_X11_chance  (p1 : Int32) (p2 : Int64) (p4 : Int32) (p5 : Int32) (m : zz_Mem) : Option (Int32 × zz_Mem) :=
  if p5 < 0 then (
  some ((-2 : Int32), m))
  else (
  if p5 ≤ (1 : Int32) then (
  if p1 < (-99 : Int32) then (
  some ((-3 : Int32), m))
  else (
  if (99 : Int32) < p1 then (
  some ((-3 : Int32), m))
  else (
  if p2 < (-1000000 : Int64) then (
  some ((-3 : Int32), m))
  else (
  if (1000000 : Int64) < p2 then (
  some ((-3 : Int32), m))
  else (
  if p4 < 0 then (
  some ((-3 : Int32), m))
  else (
  if p4 ≤ (3 : Int32) then (
  zz_bndR (f_X11_solvedNow m) fun m1 =>
  zz_bndR (f_X4_tally p1 p4 ((1000000000 : Int64) * p2) m1) fun m2 =>
  zz_bndR (f_X4_inLowestTerms (m2.2.1 96 4) (m2.2.1 96 5) p5) fun r3 =>
  some (r3.toInt32, m2))
  else (
  some ((-3 : Int32), m))))))))
  else (
  some ((-2 : Int32), m)))
theorem k_X11_chance {l : Launch} {G : zz_G} (hN : 107 ≤ zz_N G) : ∀ (p1 : Int32) (p2 : Int64) (p4 : Int32) (p5 : Int32) (m : zz_Mem), zz_Con zz_sh l G mX11_chance 7 [.ref (zz_a G 0), .int p1, .long p2, .int p4, .int p5] zz_vI zz_m2 (f_X11_chance p1 p2 p4 p5 m) m := by
  intro p1 p2 p4 p5 m
  refine zz_con (lv := [(0, .ref (zz_a G 0)), (1, .int p1), (2, .long p2), (4, .int p4), (5, .int p5)]) (by decide +kernel) (Nat.le_of_ble_eq_true rfl) rfl ?_
  unfold f_X11_chance
  refine zs_iload dX11_chance_0 4 rfl ?_
  refine zs_if_lt (tgt := 11) dX11_chance_2 (by decide) ?_ ?_
  · refine zs_bipush (v := (-2 : Int32)) dX11_chance_11 cb_m2 ?_
    exact zs_iret dX11_chance_13 rfl rfl rfl
  · refine zs_iload dX11_chance_5 4 rfl ?_
    refine zs_iconst (v := (1 : Int32)) dX11_chance_7 ci_1 ?_
    refine zs_icmp_le (tgt := 14) dX11_chance_8 (by decide) ?_ ?_
    · refine zs_iload_n dX11_chance_14 rfl 1 rfl ?_
      refine zs_bipush (v := (-99 : Int32)) dX11_chance_15 cb_m99 ?_
      refine zs_icmp_lt (tgt := 53) dX11_chance_17 (by decide) ?_ ?_
      · refine zs_bipush (v := (-3 : Int32)) dX11_chance_53 cb_m3 ?_
        exact zs_iret dX11_chance_55 rfl rfl rfl
      · refine zs_iload_n dX11_chance_20 rfl 1 rfl ?_
        refine zs_bipush (v := (99 : Int32)) dX11_chance_21 cb_99 ?_
        refine zs_icmp_gt (tgt := 53) dX11_chance_23 (by decide) ?_ ?_
        · refine zs_bipush (v := (-3 : Int32)) dX11_chance_53 cb_m3 ?_
          exact zs_iret dX11_chance_55 rfl rfl rfl
        · refine zs_lload_n dX11_chance_26 rfl 2 rfl ?_
          refine zs_ldc2 (v := (-1000000 : Int64)) dX11_chance_27 kc_X11_376 ?_
          refine zs_lcmp_lt (tgt := 53) dX11_chance_30 dX11_chance_31 (by decide) ?_ ?_
          · refine zs_bipush (v := (-3 : Int32)) dX11_chance_53 cb_m3 ?_
            exact zs_iret dX11_chance_55 rfl rfl rfl
          · refine zs_lload_n dX11_chance_34 rfl 2 rfl ?_
            refine zs_ldc2 (v := (1000000 : Int64)) dX11_chance_35 kc_X11_378 ?_
            refine zs_lcmp_gt (tgt := 53) dX11_chance_38 dX11_chance_39 (by decide) ?_ ?_
            · refine zs_bipush (v := (-3 : Int32)) dX11_chance_53 cb_m3 ?_
              exact zs_iret dX11_chance_55 rfl rfl rfl
            · refine zs_iload dX11_chance_42 3 rfl ?_
              refine zs_if_lt (tgt := 53) dX11_chance_44 (by decide) ?_ ?_
              · refine zs_bipush (v := (-3 : Int32)) dX11_chance_53 cb_m3 ?_
                exact zs_iret dX11_chance_55 rfl rfl rfl
              · refine zs_iload dX11_chance_47 3 rfl ?_
                refine zs_iconst (v := (3 : Int32)) dX11_chance_49 ci_3 ?_
                refine zs_icmp_le (tgt := 56) dX11_chance_50 (by decide) ?_ ?_
                · refine zs_aload_n dX11_chance_56 rfl 0 rfl ?_
                  refine zs_cV_aW (rest := []) (k_X11_solvedNow hN  _) dX11_chance_57 lv_X11_166 ok_X11_solvedNow (zz_rcv_o (sh_0 hN) rfl) (Nat.le_of_ble_eq_true rfl) rfl rfl (Nat.le_of_ble_eq_true rfl) (fun m1 => ?_)
                  refine zs_pop dX11_chance_60 rfl ?_
                  refine zs_aload_n dX11_chance_61 rfl 0 rfl ?_
                  refine zs_getR fl_X11_96 dX11_chance_62 (sh_0 hN) rfl ?_
                  refine zs_iload_n dX11_chance_65 rfl 1 rfl ?_
                  refine zs_iload dX11_chance_66 3 rfl ?_
                  refine zs_ldc2 (v := (1000000000 : Int64)) dX11_chance_68 kc_X11_380 ?_
                  refine zs_lload_n dX11_chance_71 rfl 2 rfl ?_
                  refine zs_lmul dX11_chance_72 ?_
                  refine zs_cV_vW (rest := []) (k_X4_tally hN _ _ _ _) dX11_chance_73 lv_X11_382 ok_X4_tally (zz_rcv_o (sh_96 hN) rfl) (Nat.le_of_ble_eq_true rfl) rfl rfl (Nat.le_of_ble_eq_true rfl) (fun m2 => ?_)
                  refine zs_aload_n dX11_chance_76 rfl 0 rfl ?_
                  refine zs_getR fl_X11_96 dX11_chance_77 (sh_0 hN) rfl ?_
                  refine zs_getJ fl_X11_386 dX11_chance_80 (sh_96 hN) rfl ?_
                  refine zs_aload_n dX11_chance_83 rfl 0 rfl ?_
                  refine zs_getR fl_X11_96 dX11_chance_84 (sh_0 hN) rfl ?_
                  refine zs_getJ fl_X11_390 dX11_chance_87 (sh_96 hN) rfl ?_
                  refine zs_iload dX11_chance_90 4 rfl ?_
                  refine zs_cS_jR (rest := []) (k_X4_inLowestTerms hN _ _ _ _) dX11_chance_92 ls_X11_393 ok_X4_inLowestTerms (Nat.le_of_ble_eq_true rfl) rfl rfl (Nat.le_of_ble_eq_true rfl) (fun r3 => ?_)
                  refine zs_l2i dX11_chance_95 ?_
                  exact zs_iret dX11_chance_96 rfl rfl rfl
                · refine zs_bipush (v := (-3 : Int32)) dX11_chance_53 cb_m3 ?_
                  exact zs_iret dX11_chance_55 rfl rfl rfl
    · refine zs_bipush (v := (-2 : Int32)) dX11_chance_11 cb_m2 ?_
      exact zs_iret dX11_chance_13 rfl rfl rfl
/-! X11_mean: PillarDesk.mean(III)J -/
theorem dX11_mean_0 : decode cX11_mean 0 = .ok (.iload_n 3, 1) := by decide +kernel
theorem dX11_mean_1 : decode cX11_mean 1 = .ok (.ifCond .lt 8, 3) := by decide +kernel
theorem dX11_mean_4 : decode cX11_mean 4 = .ok (.iload_n 3, 1) := by decide +kernel
theorem dX11_mean_5 : decode cX11_mean 5 = .ok (.iconst 1, 1) := by decide +kernel
theorem dX11_mean_6 : decode cX11_mean 6 = .ok (.if_icmp .le 7, 3) := by decide +kernel
theorem dX11_mean_9 : decode cX11_mean 9 = .ok (.ldc2_w 182, 3) := by decide +kernel
theorem dX11_mean_12 : decode cX11_mean 12 = .ok (.lreturn, 1) := by decide +kernel
theorem dX11_mean_13 : decode cX11_mean 13 = .ok (.iload_n 1, 1) := by decide +kernel
theorem dX11_mean_14 : decode cX11_mean 14 = .ok (.bipush (-99), 2) := by decide +kernel
theorem dX11_mean_16 : decode cX11_mean 16 = .ok (.if_icmp .lt 18, 3) := by decide +kernel
theorem dX11_mean_19 : decode cX11_mean 19 = .ok (.iload_n 1, 1) := by decide +kernel
theorem dX11_mean_20 : decode cX11_mean 20 = .ok (.bipush 99, 2) := by decide +kernel
theorem dX11_mean_22 : decode cX11_mean 22 = .ok (.if_icmp .gt 12, 3) := by decide +kernel
theorem dX11_mean_25 : decode cX11_mean 25 = .ok (.iload_n 2, 1) := by decide +kernel
theorem dX11_mean_26 : decode cX11_mean 26 = .ok (.ifCond .lt 8, 3) := by decide +kernel
theorem dX11_mean_29 : decode cX11_mean 29 = .ok (.iload_n 2, 1) := by decide +kernel
theorem dX11_mean_30 : decode cX11_mean 30 = .ok (.iconst 3, 1) := by decide +kernel
theorem dX11_mean_31 : decode cX11_mean 31 = .ok (.if_icmp .le 7, 3) := by decide +kernel
theorem dX11_mean_34 : decode cX11_mean 34 = .ok (.ldc2_w 334, 3) := by decide +kernel
theorem dX11_mean_37 : decode cX11_mean 37 = .ok (.lreturn, 1) := by decide +kernel
theorem dX11_mean_38 : decode cX11_mean 38 = .ok (.aload_n 0, 1) := by decide +kernel
theorem dX11_mean_39 : decode cX11_mean 39 = .ok (.invokevirtual 166, 3) := by decide +kernel
theorem dX11_mean_42 : decode cX11_mean 42 = .ok (.pop, 1) := by decide +kernel
theorem dX11_mean_43 : decode cX11_mean 43 = .ok (.aload_n 0, 1) := by decide +kernel
theorem dX11_mean_44 : decode cX11_mean 44 = .ok (.getfield 96, 3) := by decide +kernel
theorem dX11_mean_47 : decode cX11_mean 47 = .ok (.iload_n 1, 1) := by decide +kernel
theorem dX11_mean_48 : decode cX11_mean 48 = .ok (.iload_n 2, 1) := by decide +kernel
theorem dX11_mean_49 : decode cX11_mean 49 = .ok (.lconst 0, 1) := by decide +kernel
theorem dX11_mean_50 : decode cX11_mean 50 = .ok (.invokevirtual 382, 3) := by decide +kernel
theorem dX11_mean_53 : decode cX11_mean 53 = .ok (.aload_n 0, 1) := by decide +kernel
theorem dX11_mean_54 : decode cX11_mean 54 = .ok (.getfield 96, 3) := by decide +kernel
theorem dX11_mean_57 : decode cX11_mean 57 = .ok (.getfield 397, 3) := by decide +kernel
theorem dX11_mean_60 : decode cX11_mean 60 = .ok (.aload_n 0, 1) := by decide +kernel
theorem dX11_mean_61 : decode cX11_mean 61 = .ok (.getfield 96, 3) := by decide +kernel
theorem dX11_mean_64 : decode cX11_mean 64 = .ok (.getfield 390, 3) := by decide +kernel
theorem dX11_mean_67 : decode cX11_mean 67 = .ok (.iload_n 3, 1) := by decide +kernel
theorem dX11_mean_68 : decode cX11_mean 68 = .ok (.invokestatic 393, 3) := by decide +kernel
theorem dX11_mean_71 : decode cX11_mean 71 = .ok (.lreturn, 1) := by decide +kernel
def f_X11_mean  (p1 : Int32) (p2 : Int32) (p3 : Int32) (m : zz_Mem) : Option (Int64 × zz_Mem) :=
  if p3 < 0 then (
  some ((-9000000000000000002 : Int64), m))
  else (
  if p3 ≤ (1 : Int32) then (
  if p1 < (-99 : Int32) then (
  some ((-9000000000000000003 : Int64), m))
  else (
  if (99 : Int32) < p1 then (
  some ((-9000000000000000003 : Int64), m))
  else (
  if p2 < 0 then (
  some ((-9000000000000000003 : Int64), m))
  else (
  if p2 ≤ (3 : Int32) then (
  zz_bndR (f_X11_solvedNow m) fun m1 =>
  zz_bndR (f_X4_tally p1 p2 (0 : Int64) m1) fun m2 =>
  zz_bndR (f_X4_inLowestTerms (m2.2.1 96 6) (m2.2.1 96 5) p3) fun r3 =>
  some (r3, m2))
  else (
  some ((-9000000000000000003 : Int64), m))))))
  else (
  some ((-9000000000000000002 : Int64), m)))
theorem k_X11_mean {l : Launch} {G : zz_G} (hN : 107 ≤ zz_N G) : ∀ (p1 : Int32) (p2 : Int32) (p3 : Int32) (m : zz_Mem), zz_Con zz_sh l G mX11_mean 7 [.ref (zz_a G 0), .int p1, .int p2, .int p3] zz_vJ zz_m2 (f_X11_mean p1 p2 p3 m) m := by
  intro p1 p2 p3 m
  refine zz_con (lv := [(0, .ref (zz_a G 0)), (1, .int p1), (2, .int p2), (3, .int p3)]) (by decide +kernel) (Nat.le_of_ble_eq_true rfl) rfl ?_
  unfold f_X11_mean
  refine zs_iload_n dX11_mean_0 rfl 3 rfl ?_
  refine zs_if_lt (tgt := 9) dX11_mean_1 (by decide) ?_ ?_
  · refine zs_ldc2 (v := (-9000000000000000002 : Int64)) dX11_mean_9 kc_X11_182 ?_
    exact zs_lret dX11_mean_12 rfl rfl rfl
  · refine zs_iload_n dX11_mean_4 rfl 3 rfl ?_
    refine zs_iconst (v := (1 : Int32)) dX11_mean_5 ci_1 ?_
    refine zs_icmp_le (tgt := 13) dX11_mean_6 (by decide) ?_ ?_
    · refine zs_iload_n dX11_mean_13 rfl 1 rfl ?_
      refine zs_bipush (v := (-99 : Int32)) dX11_mean_14 cb_m99 ?_
      refine zs_icmp_lt (tgt := 34) dX11_mean_16 (by decide) ?_ ?_
      · refine zs_ldc2 (v := (-9000000000000000003 : Int64)) dX11_mean_34 kc_X11_334 ?_
        exact zs_lret dX11_mean_37 rfl rfl rfl
      · refine zs_iload_n dX11_mean_19 rfl 1 rfl ?_
        refine zs_bipush (v := (99 : Int32)) dX11_mean_20 cb_99 ?_
        refine zs_icmp_gt (tgt := 34) dX11_mean_22 (by decide) ?_ ?_
        · refine zs_ldc2 (v := (-9000000000000000003 : Int64)) dX11_mean_34 kc_X11_334 ?_
          exact zs_lret dX11_mean_37 rfl rfl rfl
        · refine zs_iload_n dX11_mean_25 rfl 2 rfl ?_
          refine zs_if_lt (tgt := 34) dX11_mean_26 (by decide) ?_ ?_
          · refine zs_ldc2 (v := (-9000000000000000003 : Int64)) dX11_mean_34 kc_X11_334 ?_
            exact zs_lret dX11_mean_37 rfl rfl rfl
          · refine zs_iload_n dX11_mean_29 rfl 2 rfl ?_
            refine zs_iconst (v := (3 : Int32)) dX11_mean_30 ci_3 ?_
            refine zs_icmp_le (tgt := 38) dX11_mean_31 (by decide) ?_ ?_
            · refine zs_aload_n dX11_mean_38 rfl 0 rfl ?_
              refine zs_cV_aW (rest := []) (k_X11_solvedNow hN  _) dX11_mean_39 lv_X11_166 ok_X11_solvedNow (zz_rcv_o (sh_0 hN) rfl) (Nat.le_of_ble_eq_true rfl) rfl rfl (Nat.le_of_ble_eq_true rfl) (fun m1 => ?_)
              refine zs_pop dX11_mean_42 rfl ?_
              refine zs_aload_n dX11_mean_43 rfl 0 rfl ?_
              refine zs_getR fl_X11_96 dX11_mean_44 (sh_0 hN) rfl ?_
              refine zs_iload_n dX11_mean_47 rfl 1 rfl ?_
              refine zs_iload_n dX11_mean_48 rfl 2 rfl ?_
              refine zs_lconst (v := (0 : Int64)) dX11_mean_49 rfl ?_
              refine zs_cV_vW (rest := []) (k_X4_tally hN _ _ _ _) dX11_mean_50 lv_X11_382 ok_X4_tally (zz_rcv_o (sh_96 hN) rfl) (Nat.le_of_ble_eq_true rfl) rfl rfl (Nat.le_of_ble_eq_true rfl) (fun m2 => ?_)
              refine zs_aload_n dX11_mean_53 rfl 0 rfl ?_
              refine zs_getR fl_X11_96 dX11_mean_54 (sh_0 hN) rfl ?_
              refine zs_getJ fl_X11_397 dX11_mean_57 (sh_96 hN) rfl ?_
              refine zs_aload_n dX11_mean_60 rfl 0 rfl ?_
              refine zs_getR fl_X11_96 dX11_mean_61 (sh_0 hN) rfl ?_
              refine zs_getJ fl_X11_390 dX11_mean_64 (sh_96 hN) rfl ?_
              refine zs_iload_n dX11_mean_67 rfl 3 rfl ?_
              refine zs_cS_jR (rest := []) (k_X4_inLowestTerms hN _ _ _ _) dX11_mean_68 ls_X11_393 ok_X4_inLowestTerms (Nat.le_of_ble_eq_true rfl) rfl rfl (Nat.le_of_ble_eq_true rfl) (fun r3 => ?_)
              exact zs_lret dX11_mean_71 rfl rfl rfl
            · refine zs_ldc2 (v := (-9000000000000000003 : Int64)) dX11_mean_34 kc_X11_334 ?_
              exact zs_lret dX11_mean_37 rfl rfl rfl
    · refine zs_ldc2 (v := (-9000000000000000002 : Int64)) dX11_mean_9 kc_X11_182 ?_
      exact zs_lret dX11_mean_12 rfl rfl rfl
/-! X11_numbers: PillarDesk.numbers(III)I -/
theorem dX11_numbers_0 : decode cX11_numbers 0 = .ok (.aload_n 0, 1) := by decide +kernel
theorem dX11_numbers_1 : decode cX11_numbers 1 = .ok (.iload_n 1, 1) := by decide +kernel
theorem dX11_numbers_2 : decode cX11_numbers 2 = .ok (.invokevirtual 240, 3) := by decide +kernel
theorem dX11_numbers_5 : decode cX11_numbers 5 = .ok (.ifCond .ne 12, 3) := by decide +kernel
theorem dX11_numbers_8 : decode cX11_numbers 8 = .ok (.iload_n 2, 1) := by decide +kernel
theorem dX11_numbers_9 : decode cX11_numbers 9 = .ok (.ifCond .lt 8, 3) := by decide +kernel
theorem dX11_numbers_12 : decode cX11_numbers 12 = .ok (.iload_n 2, 1) := by decide +kernel
theorem dX11_numbers_13 : decode cX11_numbers 13 = .ok (.iconst 3, 1) := by decide +kernel
theorem dX11_numbers_14 : decode cX11_numbers 14 = .ok (.if_icmp .le 6, 3) := by decide +kernel
theorem dX11_numbers_17 : decode cX11_numbers 17 = .ok (.bipush (-2), 2) := by decide +kernel
theorem dX11_numbers_19 : decode cX11_numbers 19 = .ok (.ireturn, 1) := by decide +kernel
theorem dX11_numbers_20 : decode cX11_numbers 20 = .ok (.iload_n 3, 1) := by decide +kernel
theorem dX11_numbers_21 : decode cX11_numbers 21 = .ok (.ifCond .lt 9, 3) := by decide +kernel
theorem dX11_numbers_24 : decode cX11_numbers 24 = .ok (.iload_n 3, 1) := by decide +kernel
theorem dX11_numbers_25 : decode cX11_numbers 25 = .ok (.bipush 40, 2) := by decide +kernel
theorem dX11_numbers_27 : decode cX11_numbers 27 = .ok (.if_icmp .le 6, 3) := by decide +kernel
theorem dX11_numbers_30 : decode cX11_numbers 30 = .ok (.bipush (-3), 2) := by decide +kernel
theorem dX11_numbers_32 : decode cX11_numbers 32 = .ok (.ireturn, 1) := by decide +kernel
theorem dX11_numbers_33 : decode cX11_numbers 33 = .ok (.aload_n 0, 1) := by decide +kernel
theorem dX11_numbers_34 : decode cX11_numbers 34 = .ok (.getfield 42, 3) := by decide +kernel
theorem dX11_numbers_37 : decode cX11_numbers 37 = .ok (.iload_n 1, 1) := by decide +kernel
theorem dX11_numbers_38 : decode cX11_numbers 38 = .ok (.aaload, 1) := by decide +kernel
theorem dX11_numbers_39 : decode cX11_numbers 39 = .ok (.iload_n 2, 1) := by decide +kernel
theorem dX11_numbers_40 : decode cX11_numbers 40 = .ok (.iload_n 3, 1) := by decide +kernel
theorem dX11_numbers_41 : decode cX11_numbers 41 = .ok (.invokevirtual 400, 3) := by decide +kernel
theorem dX11_numbers_44 : decode cX11_numbers 44 = .ok (.iconst 0, 1) := by decide +kernel
theorem dX11_numbers_45 : decode cX11_numbers 45 = .ok (.ireturn, 1) := by decide +kernel
def f_X11_numbers  (p1 : Int32) (p2 : Int32) (p3 : Int32) (m : zz_Mem) : Option (Int32 × zz_Mem) :=
  zz_bndR (f_X11_noTray m p1) fun r1 =>
  if r1 = 0 then (
  if p2 < 0 then (
  some ((-2 : Int32), m))
  else (
  if p2 ≤ (3 : Int32) then (
  if p3 < 0 then (
  some ((-3 : Int32), m))
  else (
  if p3 ≤ (40 : Int32) then (
  zz_ix p1 4 <|
  zz_bndR (f_X10_renew (99 + 2 * p1.toNatClampNeg) p2 p3 m) fun m3 =>
  some ((0 : Int32), m3))
  else (
  some ((-3 : Int32), m))))
  else (
  some ((-2 : Int32), m))))
  else (
  some ((-2 : Int32), m))
theorem k_X11_numbers {l : Launch} {G : zz_G} (hN : 107 ≤ zz_N G) : ∀ (p1 : Int32) (p2 : Int32) (p3 : Int32) (m : zz_Mem), zz_Con zz_sh l G mX11_numbers 2 [.ref (zz_a G 0), .int p1, .int p2, .int p3] zz_vI zz_m2 (f_X11_numbers p1 p2 p3 m) m := by
  intro p1 p2 p3 m
  refine zz_con (lv := [(0, .ref (zz_a G 0)), (1, .int p1), (2, .int p2), (3, .int p3)]) (by decide +kernel) (Nat.le_of_ble_eq_true rfl) rfl ?_
  unfold f_X11_numbers
  refine zs_aload_n dX11_numbers_0 rfl 0 rfl ?_
  refine zs_iload_n dX11_numbers_1 rfl 1 rfl ?_
  refine zs_cV_iR (rest := []) (k_X11_noTray hN _ _) dX11_numbers_2 lv_X11_240 ok_X11_noTray (zz_rcv_o (sh_0 hN) rfl) (Nat.le_of_ble_eq_true rfl) rfl rfl (Nat.le_of_ble_eq_true rfl) (fun r1 => ?_)
  refine zs_if_ne (tgt := 17) dX11_numbers_5 (by decide) ?_ ?_
  · refine zs_bipush (v := (-2 : Int32)) dX11_numbers_17 cb_m2 ?_
    exact zs_iret dX11_numbers_19 rfl rfl rfl
  · refine zs_iload_n dX11_numbers_8 rfl 2 rfl ?_
    refine zs_if_lt (tgt := 17) dX11_numbers_9 (by decide) ?_ ?_
    · refine zs_bipush (v := (-2 : Int32)) dX11_numbers_17 cb_m2 ?_
      exact zs_iret dX11_numbers_19 rfl rfl rfl
    · refine zs_iload_n dX11_numbers_12 rfl 2 rfl ?_
      refine zs_iconst (v := (3 : Int32)) dX11_numbers_13 ci_3 ?_
      refine zs_icmp_le (tgt := 20) dX11_numbers_14 (by decide) ?_ ?_
      · refine zs_iload_n dX11_numbers_20 rfl 3 rfl ?_
        refine zs_if_lt (tgt := 30) dX11_numbers_21 (by decide) ?_ ?_
        · refine zs_bipush (v := (-3 : Int32)) dX11_numbers_30 cb_m3 ?_
          exact zs_iret dX11_numbers_32 rfl rfl rfl
        · refine zs_iload_n dX11_numbers_24 rfl 3 rfl ?_
          refine zs_bipush (v := (40 : Int32)) dX11_numbers_25 cb_40 ?_
          refine zs_icmp_le (tgt := 33) dX11_numbers_27 (by decide) ?_ ?_
          · refine zs_aload_n dX11_numbers_33 rfl 0 rfl ?_
            refine zs_getR fl_X11_42 dX11_numbers_34 (sh_0 hN) rfl ?_
            refine zs_iload_n dX11_numbers_37 rfl 1 rfl ?_
            refine zs_aaldTray dX11_numbers_38 (sh_33 hN) (fun h2 => ?_)
            refine zs_iload_n dX11_numbers_39 rfl 2 rfl ?_
            refine zs_iload_n dX11_numbers_40 rfl 3 rfl ?_
            refine zs_cV_vW (rest := []) (k_X10_renew hN (isTrays hN h2) _ _ _) dX11_numbers_41 lv_X11_400 ok_X10_renew (zz_rcv_o (isTrays hN h2).1 rfl) (Nat.le_of_ble_eq_true rfl) rfl rfl (Nat.le_of_ble_eq_true rfl) (fun m3 => ?_)
            refine zs_iconst (v := (0 : Int32)) dX11_numbers_44 ci_0 ?_
            exact zs_iret dX11_numbers_45 rfl rfl rfl
          · refine zs_bipush (v := (-3 : Int32)) dX11_numbers_30 cb_m3 ?_
            exact zs_iret dX11_numbers_32 rfl rfl rfl
      · refine zs_bipush (v := (-2 : Int32)) dX11_numbers_17 cb_m2 ?_
        exact zs_iret dX11_numbers_19 rfl rfl rfl
/-! X11_write: PillarDesk.write(IIJ)J -/
theorem dX11_write_0 : decode cX11_write 0 = .ok (.aload_n 0, 1) := by decide +kernel
theorem dX11_write_1 : decode cX11_write 1 = .ok (.iload_n 1, 1) := by decide +kernel
theorem dX11_write_2 : decode cX11_write 2 = .ok (.invokevirtual 240, 3) := by decide +kernel
theorem dX11_write_5 : decode cX11_write 5 = .ok (.ifCond .eq 7, 3) := by decide +kernel
theorem dX11_write_8 : decode cX11_write 8 = .ok (.ldc2_w 404, 3) := by decide +kernel
theorem dX11_write_11 : decode cX11_write 11 = .ok (.lreturn, 1) := by decide +kernel
theorem dX11_write_12 : decode cX11_write 12 = .ok (.aload_n 0, 1) := by decide +kernel
theorem dX11_write_13 : decode cX11_write 13 = .ok (.getfield 42, 3) := by decide +kernel
theorem dX11_write_16 : decode cX11_write 16 = .ok (.iload_n 1, 1) := by decide +kernel
theorem dX11_write_17 : decode cX11_write 17 = .ok (.aaload, 1) := by decide +kernel
theorem dX11_write_18 : decode cX11_write 18 = .ok (.invokevirtual 243, 3) := by decide +kernel
theorem dX11_write_21 : decode cX11_write 21 = .ok (.ifCond .eq 7, 3) := by decide +kernel
theorem dX11_write_24 : decode cX11_write 24 = .ok (.ldc2_w 406, 3) := by decide +kernel
theorem dX11_write_27 : decode cX11_write 27 = .ok (.lreturn, 1) := by decide +kernel
theorem dX11_write_28 : decode cX11_write 28 = .ok (.iload_n 2, 1) := by decide +kernel
theorem dX11_write_29 : decode cX11_write 29 = .ok (.ifCond .lt 16, 3) := by decide +kernel
theorem dX11_write_32 : decode cX11_write 32 = .ok (.iload_n 2, 1) := by decide +kernel
theorem dX11_write_33 : decode cX11_write 33 = .ok (.aload_n 0, 1) := by decide +kernel
theorem dX11_write_34 : decode cX11_write 34 = .ok (.getfield 42, 3) := by decide +kernel
theorem dX11_write_37 : decode cX11_write 37 = .ok (.iload_n 1, 1) := by decide +kernel
theorem dX11_write_38 : decode cX11_write 38 = .ok (.aaload, 1) := by decide +kernel
theorem dX11_write_39 : decode cX11_write 39 = .ok (.getfield 251, 3) := by decide +kernel
theorem dX11_write_42 : decode cX11_write 42 = .ok (.if_icmp .lt 7, 3) := by decide +kernel
theorem dX11_write_45 : decode cX11_write 45 = .ok (.ldc2_w 408, 3) := by decide +kernel
theorem dX11_write_48 : decode cX11_write 48 = .ok (.lreturn, 1) := by decide +kernel
theorem dX11_write_49 : decode cX11_write 49 = .ok (.aload_n 0, 1) := by decide +kernel
theorem dX11_write_50 : decode cX11_write 50 = .ok (.getfield 42, 3) := by decide +kernel
theorem dX11_write_53 : decode cX11_write 53 = .ok (.iload_n 1, 1) := by decide +kernel
theorem dX11_write_54 : decode cX11_write 54 = .ok (.aaload, 1) := by decide +kernel
theorem dX11_write_55 : decode cX11_write 55 = .ok (.iload_n 2, 1) := by decide +kernel
theorem dX11_write_56 : decode cX11_write 56 = .ok (.lload_n 3, 1) := by decide +kernel
theorem dX11_write_57 : decode cX11_write 57 = .ok (.invokevirtual 410, 3) := by decide +kernel
theorem dX11_write_60 : decode cX11_write 60 = .ok (.aload_n 0, 1) := by decide +kernel
theorem dX11_write_61 : decode cX11_write 61 = .ok (.getfield 42, 3) := by decide +kernel
theorem dX11_write_64 : decode cX11_write 64 = .ok (.iload_n 1, 1) := by decide +kernel
theorem dX11_write_65 : decode cX11_write 65 = .ok (.aaload, 1) := by decide +kernel
theorem dX11_write_66 : decode cX11_write 66 = .ok (.getfield 252, 3) := by decide +kernel
theorem dX11_write_69 : decode cX11_write 69 = .ok (.iload_n 2, 1) := by decide +kernel
theorem dX11_write_70 : decode cX11_write 70 = .ok (.laload, 1) := by decide +kernel
theorem dX11_write_71 : decode cX11_write 71 = .ok (.lreturn, 1) := by decide +kernel
def f_X11_write  (p1 : Int32) (p2 : Int32) (p3 : Int64) (m : zz_Mem) : Option (Int64 × zz_Mem) :=
  zz_bndR (f_X11_noTray m p1) fun r1 =>
  if r1 = 0 then (
  zz_ix p1 4 <|
  zz_bndR (f_X10_isMissing (99 + 2 * p1.toNatClampNeg) m) fun r3 =>
  if r3 = 0 then (
  if p2 < 0 then (
  some ((-7 : Int64), m))
  else (
  zz_ix p1 4 <|
  if p2 < (m.1 (99 + 2 * p1.toNatClampNeg) 2) then (
  zz_ix p1 4 <|
  zz_bndR (f_X10_put (99 + 2 * p1.toNatClampNeg) p2 p3 m) fun m6 =>
  zz_ix p1 4 <|
  zz_ix p2 40 <|
  some (m6.2.1 ((99 + 2 * p1.toNatClampNeg) + 1) p2.toNatClampNeg, m6))
  else (
  some ((-7 : Int64), m))))
  else (
  some ((-6 : Int64), m)))
  else (
  some ((-2 : Int64), m))
theorem k_X11_write {l : Launch} {G : zz_G} (hN : 107 ≤ zz_N G) : ∀ (p1 : Int32) (p2 : Int32) (p3 : Int64) (m : zz_Mem), zz_Con zz_sh l G mX11_write 1 [.ref (zz_a G 0), .int p1, .int p2, .long p3] zz_vJ zz_m2 (f_X11_write p1 p2 p3 m) m := by
  intro p1 p2 p3 m
  refine zz_con (lv := [(0, .ref (zz_a G 0)), (1, .int p1), (2, .int p2), (3, .long p3)]) (by decide +kernel) (Nat.le_of_ble_eq_true rfl) rfl ?_
  unfold f_X11_write
  refine zs_aload_n dX11_write_0 rfl 0 rfl ?_
  refine zs_iload_n dX11_write_1 rfl 1 rfl ?_
  refine zs_cV_iR (rest := []) (k_X11_noTray hN _ _) dX11_write_2 lv_X11_240 ok_X11_noTray (zz_rcv_o (sh_0 hN) rfl) (Nat.le_of_ble_eq_true rfl) rfl rfl (Nat.le_of_ble_eq_true rfl) (fun r1 => ?_)
  refine zs_if_eq (tgt := 12) dX11_write_5 (by decide) ?_ ?_
  · refine zs_aload_n dX11_write_12 rfl 0 rfl ?_
    refine zs_getR fl_X11_42 dX11_write_13 (sh_0 hN) rfl ?_
    refine zs_iload_n dX11_write_16 rfl 1 rfl ?_
    refine zs_aaldTray dX11_write_17 (sh_33 hN) (fun h2 => ?_)
    refine zs_cV_iR (rest := []) (k_X10_isMissing hN (isTrays hN h2)  _) dX11_write_18 lv_X11_243 ok_X10_isMissing (zz_rcv_o (isTrays hN h2).1 rfl) (Nat.le_of_ble_eq_true rfl) rfl rfl (Nat.le_of_ble_eq_true rfl) (fun r3 => ?_)
    refine zs_if_eq (tgt := 28) dX11_write_21 (by decide) ?_ ?_
    · refine zs_iload_n dX11_write_28 rfl 2 rfl ?_
      refine zs_if_lt (tgt := 45) dX11_write_29 (by decide) ?_ ?_
      · refine zs_ldc2 (v := (-7 : Int64)) dX11_write_45 kc_X11_408 ?_
        exact zs_lret dX11_write_48 rfl rfl rfl
      · refine zs_iload_n dX11_write_32 rfl 2 rfl ?_
        refine zs_aload_n dX11_write_33 rfl 0 rfl ?_
        refine zs_getR fl_X11_42 dX11_write_34 (sh_0 hN) rfl ?_
        refine zs_iload_n dX11_write_37 rfl 1 rfl ?_
        refine zs_aaldTray dX11_write_38 (sh_33 hN) (fun h4 => ?_)
        refine zs_getI fl_X11_251 dX11_write_39 (isTrays hN h4).1 rfl ?_
        refine zs_icmp_lt (tgt := 49) dX11_write_42 (by decide) ?_ ?_
        · refine zs_aload_n dX11_write_49 rfl 0 rfl ?_
          refine zs_getR fl_X11_42 dX11_write_50 (sh_0 hN) rfl ?_
          refine zs_iload_n dX11_write_53 rfl 1 rfl ?_
          refine zs_aaldTray dX11_write_54 (sh_33 hN) (fun h5 => ?_)
          refine zs_iload_n dX11_write_55 rfl 2 rfl ?_
          refine zs_lload_n dX11_write_56 rfl 3 rfl ?_
          refine zs_cV_vW (rest := []) (k_X10_put hN (isTrays hN h5) _ _ _) dX11_write_57 lv_X11_410 ok_X10_put (zz_rcv_o (isTrays hN h5).1 rfl) (Nat.le_of_ble_eq_true rfl) rfl rfl (Nat.le_of_ble_eq_true rfl) (fun m6 => ?_)
          refine zs_aload_n dX11_write_60 rfl 0 rfl ?_
          refine zs_getR fl_X11_42 dX11_write_61 (sh_0 hN) rfl ?_
          refine zs_iload_n dX11_write_64 rfl 1 rfl ?_
          refine zs_aaldTray dX11_write_65 (sh_33 hN) (fun h7 => ?_)
          refine zs_getR fl_X11_252 dX11_write_66 (isTrays hN h7).1 rfl ?_
          refine zs_iload_n dX11_write_69 rfl 2 rfl ?_
          refine zs_laldG dX11_write_70 (isTrays hN h7).2 ?_
          exact zs_lret dX11_write_71 rfl rfl rfl
        · refine zs_ldc2 (v := (-7 : Int64)) dX11_write_45 kc_X11_408 ?_
          exact zs_lret dX11_write_48 rfl rfl rfl
    · refine zs_ldc2 (v := (-6 : Int64)) dX11_write_24 kc_X11_406 ?_
      exact zs_lret dX11_write_27 rfl rfl rfl
  · refine zs_ldc2 (v := (-2 : Int64)) dX11_write_8 kc_X11_404 ?_
    exact zs_lret dX11_write_11 rfl rfl rfl
/-! X11_lists: PillarDesk.lists(I)I -/
theorem dX11_lists_0 : decode cX11_lists 0 = .ok (.aload_n 0, 1) := by decide +kernel
theorem dX11_lists_1 : decode cX11_lists 1 = .ok (.iload_n 1, 1) := by decide +kernel
theorem dX11_lists_2 : decode cX11_lists 2 = .ok (.invokevirtual 240, 3) := by decide +kernel
theorem dX11_lists_5 : decode cX11_lists 5 = .ok (.ifCond .eq 6, 3) := by decide +kernel
theorem dX11_lists_8 : decode cX11_lists 8 = .ok (.bipush (-2), 2) := by decide +kernel
theorem dX11_lists_10 : decode cX11_lists 10 = .ok (.ireturn, 1) := by decide +kernel
theorem dX11_lists_11 : decode cX11_lists 11 = .ok (.aload_n 0, 1) := by decide +kernel
theorem dX11_lists_12 : decode cX11_lists 12 = .ok (.getfield 42, 3) := by decide +kernel
theorem dX11_lists_15 : decode cX11_lists 15 = .ok (.iload_n 1, 1) := by decide +kernel
theorem dX11_lists_16 : decode cX11_lists 16 = .ok (.aaload, 1) := by decide +kernel
theorem dX11_lists_17 : decode cX11_lists 17 = .ok (.invokevirtual 243, 3) := by decide +kernel
theorem dX11_lists_20 : decode cX11_lists 20 = .ok (.ifCond .eq 6, 3) := by decide +kernel
theorem dX11_lists_23 : decode cX11_lists 23 = .ok (.bipush (-6), 2) := by decide +kernel
theorem dX11_lists_25 : decode cX11_lists 25 = .ok (.ireturn, 1) := by decide +kernel
theorem dX11_lists_26 : decode cX11_lists 26 = .ok (.aload_n 0, 1) := by decide +kernel
theorem dX11_lists_27 : decode cX11_lists 27 = .ok (.getfield 66, 3) := by decide +kernel
theorem dX11_lists_30 : decode cX11_lists 30 = .ok (.getfield 302, 3) := by decide +kernel
theorem dX11_lists_33 : decode cX11_lists 33 = .ok (.aload_n 0, 1) := by decide +kernel
theorem dX11_lists_34 : decode cX11_lists 34 = .ok (.getfield 42, 3) := by decide +kernel
theorem dX11_lists_37 : decode cX11_lists 37 = .ok (.iload_n 1, 1) := by decide +kernel
theorem dX11_lists_38 : decode cX11_lists 38 = .ok (.aaload, 1) := by decide +kernel
theorem dX11_lists_39 : decode cX11_lists 39 = .ok (.getfield 251, 3) := by decide +kernel
theorem dX11_lists_42 : decode cX11_lists 42 = .ok (.invokestatic 294, 3) := by decide +kernel
theorem dX11_lists_45 : decode cX11_lists 45 = .ok (.istore_n 2, 1) := by decide +kernel
theorem dX11_lists_46 : decode cX11_lists 46 = .ok (.aload_n 0, 1) := by decide +kernel
theorem dX11_lists_47 : decode cX11_lists 47 = .ok (.invokevirtual 166, 3) := by decide +kernel
theorem dX11_lists_50 : decode cX11_lists 50 = .ok (.astore_n 3, 1) := by decide +kernel
theorem dX11_lists_51 : decode cX11_lists 51 = .ok (.iconst 0, 1) := by decide +kernel
theorem dX11_lists_52 : decode cX11_lists 52 = .ok (.istore 4, 2) := by decide +kernel
theorem dX11_lists_54 : decode cX11_lists 54 = .ok (.iload 4, 2) := by decide +kernel
theorem dX11_lists_56 : decode cX11_lists 56 = .ok (.iload_n 2, 1) := by decide +kernel
theorem dX11_lists_57 : decode cX11_lists 57 = .ok (.if_icmp .ge 28, 3) := by decide +kernel
theorem dX11_lists_60 : decode cX11_lists 60 = .ok (.aload_n 0, 1) := by decide +kernel
theorem dX11_lists_61 : decode cX11_lists 61 = .ok (.getfield 42, 3) := by decide +kernel
theorem dX11_lists_64 : decode cX11_lists 64 = .ok (.iload_n 1, 1) := by decide +kernel
theorem dX11_lists_65 : decode cX11_lists 65 = .ok (.aaload, 1) := by decide +kernel
theorem dX11_lists_66 : decode cX11_lists 66 = .ok (.iload 4, 2) := by decide +kernel
theorem dX11_lists_68 : decode cX11_lists 68 = .ok (.aload_n 3, 1) := by decide +kernel
theorem dX11_lists_69 : decode cX11_lists 69 = .ok (.getfield 311, 3) := by decide +kernel
theorem dX11_lists_72 : decode cX11_lists 72 = .ok (.iload 4, 2) := by decide +kernel
theorem dX11_lists_74 : decode cX11_lists 74 = .ok (.iaload, 1) := by decide +kernel
theorem dX11_lists_75 : decode cX11_lists 75 = .ok (.i2l, 1) := by decide +kernel
theorem dX11_lists_76 : decode cX11_lists 76 = .ok (.invokevirtual 410, 3) := by decide +kernel
theorem dX11_lists_79 : decode cX11_lists 79 = .ok (.iinc 4 1, 3) := by decide +kernel
theorem dX11_lists_82 : decode cX11_lists 82 = .ok (.goto (-28), 3) := by decide +kernel
theorem dX11_lists_85 : decode cX11_lists 85 = .ok (.iload_n 2, 1) := by decide +kernel
theorem dX11_lists_86 : decode cX11_lists 86 = .ok (.ireturn, 1) := by decide +kernel
def f_X11_lists_54   : Nat → Int32 → Int32 → Int32 → zz_Mem → Option (Int32 × zz_Mem)
  | 0, _, _, _, _ => none
  | n + 1, v1, v2, v4, m =>
  if v2 ≤ v4 then (
  some (v2, m))
  else (
  zz_ix v1 4 <|
  zz_ix v4 9 <|
  zz_bndR (f_X10_put (99 + 2 * v1.toNatClampNeg) v4 ((m.1 85 v4.toNatClampNeg).toInt64) m) fun m2 =>
  zz_letI (v4 + (1 : Int32)) fun x3 =>
  f_X11_lists_54 n v1 v2 x3 m2)
theorem t_X11_lists_54 {l : Launch} {G : zz_G} (hN : 107 ≤ zz_N G)  : ∀ (n : Nat) (v1 : Int32) (v2 : Int32) (v4 : Int32) (m : zz_Mem), zz_Sim zz_sh l G mX11_lists 6 zz_vI zz_m2 (f_X11_lists_54 n v1 v2 v4 m) 54 [(0, .ref (zz_a G 0)), (1, .int v1), (2, .int v2), (3, .ref (zz_a G 83)), (4, .int v4)] [] m := by
  intro n
  induction n with
  | zero => intro _ _ _ _; exact zs_none
  | succ n ih =>
    intro v1 v2 v4 m
    rw [f_X11_lists_54]
    refine zs_iload dX11_lists_54 4 rfl ?_
    refine zs_iload_n dX11_lists_56 rfl 2 rfl ?_
    refine zs_icmp_ge (tgt := 85) dX11_lists_57 (by decide) ?_ ?_
    · refine zs_iload_n dX11_lists_85 rfl 2 rfl ?_
      exact zs_iret dX11_lists_86 rfl rfl rfl
    · refine zs_aload_n dX11_lists_60 rfl 0 rfl ?_
      refine zs_getR fl_X11_42 dX11_lists_61 (sh_0 hN) rfl ?_
      refine zs_iload_n dX11_lists_64 rfl 1 rfl ?_
      refine zs_aaldTray dX11_lists_65 (sh_33 hN) (fun h1 => ?_)
      refine zs_iload dX11_lists_66 4 rfl ?_
      refine zs_aload_n dX11_lists_68 rfl 3 rfl ?_
      refine zs_getR fl_X11_311 dX11_lists_69 (sh_83 hN) rfl ?_
      refine zs_iload dX11_lists_72 4 rfl ?_
      refine zs_ialdG dX11_lists_74 (sh_85 hN) ?_
      refine zs_i2l dX11_lists_75 ?_
      refine zs_cV_vW (rest := []) (k_X10_put hN (isTrays hN h1) _ _ _) dX11_lists_76 lv_X11_410 ok_X10_put (zz_rcv_o (isTrays hN h1).1 rfl) (Nat.le_of_ble_eq_true rfl) rfl rfl (Nat.le_of_ble_eq_true rfl) (fun m2 => ?_)
      refine zs_iinc (fun y => [(4, .int y), (0, .ref (zz_a G 0)), (1, .int v1), (2, .int v2), (3, .ref (zz_a G 83))]) dX11_lists_79 4 rfl ci_1 (Nat.le_of_ble_eq_true rfl) (fun _ => rfl) (fun x3 => ?_)
      refine zs_goto (tgt := 54) dX11_lists_82 (by decide) ?_
      refine zs_sub [1, 2, 3, 4, 0] rfl ?_
      exact ih _ _ _ _
def f_X11_lists  (p1 : Int32) (m : zz_Mem) : Option (Int32 × zz_Mem) :=
  zz_bndR (f_X11_noTray m p1) fun r1 =>
  if r1 = 0 then (
  zz_ix p1 4 <|
  zz_bndR (f_X10_isMissing (99 + 2 * p1.toNatClampNeg) m) fun r3 =>
  if r3 = 0 then (
  zz_ix p1 4 <|
  zz_bndR (f_J9_min_7cf53 (m.1 72 8) (m.1 (99 + 2 * p1.toNatClampNeg) 2)) fun r5 =>
  zz_bndR (f_X11_solvedNow m) fun m6 =>
  f_X11_lists_54 zz_fuel p1 r5 (0 : Int32) m6)
  else (
  some ((-6 : Int32), m)))
  else (
  some ((-2 : Int32), m))
theorem k_X11_lists {l : Launch} {G : zz_G} (hN : 107 ≤ zz_N G) : ∀ (p1 : Int32) (m : zz_Mem), zz_Con zz_sh l G mX11_lists 6 [.ref (zz_a G 0), .int p1] zz_vI zz_m2 (f_X11_lists p1 m) m := by
  intro p1 m
  refine zz_con (lv := [(0, .ref (zz_a G 0)), (1, .int p1)]) (by decide +kernel) (Nat.le_of_ble_eq_true rfl) rfl ?_
  unfold f_X11_lists
  refine zs_aload_n dX11_lists_0 rfl 0 rfl ?_
  refine zs_iload_n dX11_lists_1 rfl 1 rfl ?_
  refine zs_cV_iR (rest := []) (k_X11_noTray hN _ _) dX11_lists_2 lv_X11_240 ok_X11_noTray (zz_rcv_o (sh_0 hN) rfl) (Nat.le_of_ble_eq_true rfl) rfl rfl (Nat.le_of_ble_eq_true rfl) (fun r1 => ?_)
  refine zs_if_eq (tgt := 11) dX11_lists_5 (by decide) ?_ ?_
  · refine zs_aload_n dX11_lists_11 rfl 0 rfl ?_
    refine zs_getR fl_X11_42 dX11_lists_12 (sh_0 hN) rfl ?_
    refine zs_iload_n dX11_lists_15 rfl 1 rfl ?_
    refine zs_aaldTray dX11_lists_16 (sh_33 hN) (fun h2 => ?_)
    refine zs_cV_iR (rest := []) (k_X10_isMissing hN (isTrays hN h2)  _) dX11_lists_17 lv_X11_243 ok_X10_isMissing (zz_rcv_o (isTrays hN h2).1 rfl) (Nat.le_of_ble_eq_true rfl) rfl rfl (Nat.le_of_ble_eq_true rfl) (fun r3 => ?_)
    refine zs_if_eq (tgt := 26) dX11_lists_20 (by decide) ?_ ?_
    · refine zs_aload_n dX11_lists_26 rfl 0 rfl ?_
      refine zs_getR fl_X11_66 dX11_lists_27 (sh_0 hN) rfl ?_
      refine zs_getI fl_X11_302 dX11_lists_30 (sh_72 hN) rfl ?_
      refine zs_aload_n dX11_lists_33 rfl 0 rfl ?_
      refine zs_getR fl_X11_42 dX11_lists_34 (sh_0 hN) rfl ?_
      refine zs_iload_n dX11_lists_37 rfl 1 rfl ?_
      refine zs_aaldTray dX11_lists_38 (sh_33 hN) (fun h4 => ?_)
      refine zs_getI fl_X11_251 dX11_lists_39 (isTrays hN h4).1 rfl ?_
      refine zs_cS_iR (rest := []) (k_J9_min_7cf53 hN _ _ _) dX11_lists_42 ls_X11_294 ok_J9_min_7cf53 (Nat.le_of_ble_eq_true rfl) rfl rfl (Nat.le_of_ble_eq_true rfl) (fun r5 => ?_)
      refine zs_istore_n [(2, .int r5), (0, .ref (zz_a G 0)), (1, .int p1)] dX11_lists_45 rfl (Nat.le_of_ble_eq_true rfl) rfl ?_
      refine zs_aload_n dX11_lists_46 rfl 1 rfl ?_
      refine zs_cV_aW (rest := []) (k_X11_solvedNow hN  _) dX11_lists_47 lv_X11_166 ok_X11_solvedNow (zz_rcv_o (sh_0 hN) rfl) (Nat.le_of_ble_eq_true rfl) rfl rfl (Nat.le_of_ble_eq_true rfl) (fun m6 => ?_)
      refine zs_astore_n [(3, .ref (zz_a G 83)), (2, .int r5), (0, .ref (zz_a G 0)), (1, .int p1)] dX11_lists_50 rfl (Nat.le_of_ble_eq_true rfl) rfl ?_
      refine zs_iconst (v := (0 : Int32)) dX11_lists_51 ci_0 ?_
      refine zs_istore [(4, .int (0 : Int32)), (3, .ref (zz_a G 83)), (2, .int r5), (0, .ref (zz_a G 0)), (1, .int p1)] dX11_lists_52 (Nat.le_of_ble_eq_true rfl) rfl ?_
      refine zs_sub [3, 4, 2, 1, 0] rfl ?_
      exact t_X11_lists_54 hN zz_fuel _ _ _ _
    · refine zs_bipush (v := (-6 : Int32)) dX11_lists_23 cb_m6 ?_
      exact zs_iret dX11_lists_25 rfl rfl rfl
  · refine zs_bipush (v := (-2 : Int32)) dX11_lists_8 cb_m2 ?_
    exact zs_iret dX11_lists_10 rfl rfl rfl
/-! X11_count: PillarDesk.count(I)I -/
theorem dX11_count_0 : decode cX11_count 0 = .ok (.iload_n 1, 1) := by decide +kernel
theorem dX11_count_1 : decode cX11_count 1 = .ok (.tableswitch 142 0 9 #[55, 63, 71, 79, 87, 95, 106, 121, 129, 134], 55) := by decide +kernel
theorem dX11_count_56 : decode cX11_count 56 = .ok (.aload_n 0, 1) := by decide +kernel
theorem dX11_count_57 : decode cX11_count 57 = .ok (.getfield 20, 3) := by decide +kernel
theorem dX11_count_60 : decode cX11_count 60 = .ok (.getfield 338, 3) := by decide +kernel
theorem dX11_count_63 : decode cX11_count 63 = .ok (.ireturn, 1) := by decide +kernel
theorem dX11_count_64 : decode cX11_count 64 = .ok (.aload_n 0, 1) := by decide +kernel
theorem dX11_count_65 : decode cX11_count 65 = .ok (.getfield 20, 3) := by decide +kernel
theorem dX11_count_68 : decode cX11_count 68 = .ok (.getfield 414, 3) := by decide +kernel
theorem dX11_count_71 : decode cX11_count 71 = .ok (.ireturn, 1) := by decide +kernel
theorem dX11_count_72 : decode cX11_count 72 = .ok (.aload_n 0, 1) := by decide +kernel
theorem dX11_count_73 : decode cX11_count 73 = .ok (.getfield 20, 3) := by decide +kernel
theorem dX11_count_76 : decode cX11_count 76 = .ok (.getfield 417, 3) := by decide +kernel
theorem dX11_count_79 : decode cX11_count 79 = .ok (.ireturn, 1) := by decide +kernel
theorem dX11_count_80 : decode cX11_count 80 = .ok (.aload_n 0, 1) := by decide +kernel
theorem dX11_count_81 : decode cX11_count 81 = .ok (.getfield 20, 3) := by decide +kernel
theorem dX11_count_84 : decode cX11_count 84 = .ok (.getfield 420, 3) := by decide +kernel
theorem dX11_count_87 : decode cX11_count 87 = .ok (.ireturn, 1) := by decide +kernel
theorem dX11_count_88 : decode cX11_count 88 = .ok (.aload_n 0, 1) := by decide +kernel
theorem dX11_count_89 : decode cX11_count 89 = .ok (.getfield 20, 3) := by decide +kernel
theorem dX11_count_92 : decode cX11_count 92 = .ok (.getfield 423, 3) := by decide +kernel
theorem dX11_count_95 : decode cX11_count 95 = .ok (.ireturn, 1) := by decide +kernel
theorem dX11_count_96 : decode cX11_count 96 = .ok (.aload_n 0, 1) := by decide +kernel
theorem dX11_count_97 : decode cX11_count 97 = .ok (.getfield 20, 3) := by decide +kernel
theorem dX11_count_100 : decode cX11_count 100 = .ok (.getfield 160, 3) := by decide +kernel
theorem dX11_count_103 : decode cX11_count 103 = .ok (.getfield 224, 3) := by decide +kernel
theorem dX11_count_106 : decode cX11_count 106 = .ok (.ireturn, 1) := by decide +kernel
theorem dX11_count_107 : decode cX11_count 107 = .ok (.aload_n 0, 1) := by decide +kernel
theorem dX11_count_108 : decode cX11_count 108 = .ok (.getfield 20, 3) := by decide +kernel
theorem dX11_count_111 : decode cX11_count 111 = .ok (.aload_n 0, 1) := by decide +kernel
theorem dX11_count_112 : decode cX11_count 112 = .ok (.getfield 20, 3) := by decide +kernel
theorem dX11_count_115 : decode cX11_count 115 = .ok (.getfield 160, 3) := by decide +kernel
theorem dX11_count_118 : decode cX11_count 118 = .ok (.invokevirtual 260, 3) := by decide +kernel
theorem dX11_count_121 : decode cX11_count 121 = .ok (.ireturn, 1) := by decide +kernel
theorem dX11_count_122 : decode cX11_count 122 = .ok (.aload_n 0, 1) := by decide +kernel
theorem dX11_count_123 : decode cX11_count 123 = .ok (.getfield 49, 3) := by decide +kernel
theorem dX11_count_126 : decode cX11_count 126 = .ok (.getfield 233, 3) := by decide +kernel
theorem dX11_count_129 : decode cX11_count 129 = .ok (.ireturn, 1) := by decide +kernel
theorem dX11_count_130 : decode cX11_count 130 = .ok (.aload_n 0, 1) := by decide +kernel
theorem dX11_count_131 : decode cX11_count 131 = .ok (.getfield 112, 3) := by decide +kernel
theorem dX11_count_134 : decode cX11_count 134 = .ok (.ireturn, 1) := by decide +kernel
theorem dX11_count_135 : decode cX11_count 135 = .ok (.aload_n 0, 1) := by decide +kernel
theorem dX11_count_136 : decode cX11_count 136 = .ok (.getfield 20, 3) := by decide +kernel
theorem dX11_count_139 : decode cX11_count 139 = .ok (.getfield 138, 3) := by decide +kernel
theorem dX11_count_142 : decode cX11_count 142 = .ok (.ireturn, 1) := by decide +kernel
theorem dX11_count_143 : decode cX11_count 143 = .ok (.iconst (-1), 1) := by decide +kernel
theorem dX11_count_144 : decode cX11_count 144 = .ok (.ireturn, 1) := by decide +kernel
def f_X11_count (m : zz_Mem) (p1 : Int32) : Option Int32 :=
  if p1 = (0 : Int32) then (
  some (m.1 2 5))
  else if p1 = (1 : Int32) then (
  some (m.1 2 10))
  else if p1 = (2 : Int32) then (
  some (m.1 2 3))
  else if p1 = (3 : Int32) then (
  some (m.1 2 0))
  else if p1 = (4 : Int32) then (
  some (m.1 2 1))
  else if p1 = (5 : Int32) then (
  some (m.1 13 2))
  else if p1 = (6 : Int32) then (
  zz_bndR (f_X6_rateSum 13 m) fun r8 =>
  some r8)
  else if p1 = (7 : Int32) then (
  some (m.1 34 2))
  else if p1 = (8 : Int32) then (
  some (m.1 0 1))
  else if p1 = (9 : Int32) then (
  some (m.1 2 2))
  else (
  some (-1 : Int32))
theorem k_X11_count {l : Launch} {G : zz_G} (hN : 107 ≤ zz_N G) : ∀ (p1 : Int32) (m : zz_Mem), zz_Con zz_sh l G mX11_count 1 [.ref (zz_a G 0), .int p1] zz_vIr (zz_mC m) (f_X11_count m p1) m := by
  intro p1 m
  refine zz_con (lv := [(0, .ref (zz_a G 0)), (1, .int p1)]) (by decide +kernel) (Nat.le_of_ble_eq_true rfl) rfl ?_
  unfold f_X11_count
  refine zs_iload_n dX11_count_0 rfl 1 rfl ?_
  refine zs_ite (fun h1 => ?_) (fun h1 => ?_)
  · refine zs_tswI (tgt := 56) h1 dX11_count_1 (by decide) (by decide) rfl (by decide) ?_
    refine zs_aload_n dX11_count_56 rfl 0 rfl ?_
    refine zs_getR fl_X11_20 dX11_count_57 (sh_0 hN) rfl ?_
    refine zs_getI fl_X11_338 dX11_count_60 (sh_2 hN) rfl ?_
    exact zs_iret dX11_count_63 rfl rfl rfl
  refine zs_ite (fun h2 => ?_) (fun h2 => ?_)
  · refine zs_tswI (tgt := 64) h2 dX11_count_1 (by decide) (by decide) rfl (by decide) ?_
    refine zs_aload_n dX11_count_64 rfl 0 rfl ?_
    refine zs_getR fl_X11_20 dX11_count_65 (sh_0 hN) rfl ?_
    refine zs_getI fl_X11_414 dX11_count_68 (sh_2 hN) rfl ?_
    exact zs_iret dX11_count_71 rfl rfl rfl
  refine zs_ite (fun h3 => ?_) (fun h3 => ?_)
  · refine zs_tswI (tgt := 72) h3 dX11_count_1 (by decide) (by decide) rfl (by decide) ?_
    refine zs_aload_n dX11_count_72 rfl 0 rfl ?_
    refine zs_getR fl_X11_20 dX11_count_73 (sh_0 hN) rfl ?_
    refine zs_getI fl_X11_417 dX11_count_76 (sh_2 hN) rfl ?_
    exact zs_iret dX11_count_79 rfl rfl rfl
  refine zs_ite (fun h4 => ?_) (fun h4 => ?_)
  · refine zs_tswI (tgt := 80) h4 dX11_count_1 (by decide) (by decide) rfl (by decide) ?_
    refine zs_aload_n dX11_count_80 rfl 0 rfl ?_
    refine zs_getR fl_X11_20 dX11_count_81 (sh_0 hN) rfl ?_
    refine zs_getI fl_X11_420 dX11_count_84 (sh_2 hN) rfl ?_
    exact zs_iret dX11_count_87 rfl rfl rfl
  refine zs_ite (fun h5 => ?_) (fun h5 => ?_)
  · refine zs_tswI (tgt := 88) h5 dX11_count_1 (by decide) (by decide) rfl (by decide) ?_
    refine zs_aload_n dX11_count_88 rfl 0 rfl ?_
    refine zs_getR fl_X11_20 dX11_count_89 (sh_0 hN) rfl ?_
    refine zs_getI fl_X11_423 dX11_count_92 (sh_2 hN) rfl ?_
    exact zs_iret dX11_count_95 rfl rfl rfl
  refine zs_ite (fun h6 => ?_) (fun h6 => ?_)
  · refine zs_tswI (tgt := 96) h6 dX11_count_1 (by decide) (by decide) rfl (by decide) ?_
    refine zs_aload_n dX11_count_96 rfl 0 rfl ?_
    refine zs_getR fl_X11_20 dX11_count_97 (sh_0 hN) rfl ?_
    refine zs_getR fl_X11_160 dX11_count_100 (sh_2 hN) rfl ?_
    refine zs_getI fl_X11_224 dX11_count_103 (sh_13 hN) rfl ?_
    exact zs_iret dX11_count_106 rfl rfl rfl
  refine zs_ite (fun h7 => ?_) (fun h7 => ?_)
  · refine zs_tswI (tgt := 107) h7 dX11_count_1 (by decide) (by decide) rfl (by decide) ?_
    refine zs_aload_n dX11_count_107 rfl 0 rfl ?_
    refine zs_getR fl_X11_20 dX11_count_108 (sh_0 hN) rfl ?_
    refine zs_aload_n dX11_count_111 rfl 0 rfl ?_
    refine zs_getR fl_X11_20 dX11_count_112 (sh_0 hN) rfl ?_
    refine zs_getR fl_X11_160 dX11_count_115 (sh_2 hN) rfl ?_
    refine zs_cV_iR (rest := []) (k_X6_rateSum hN ((isStand_13 hN))  _) dX11_count_118 lv_X11_260 ok_X6_rateSum (zz_rcv_o (sh_2 hN) rfl) (Nat.le_of_ble_eq_true rfl) rfl rfl (Nat.le_of_ble_eq_true rfl) (fun r8 => ?_)
    exact zs_iret dX11_count_121 rfl rfl rfl
  refine zs_ite (fun h9 => ?_) (fun h9 => ?_)
  · refine zs_tswI (tgt := 122) h9 dX11_count_1 (by decide) (by decide) rfl (by decide) ?_
    refine zs_aload_n dX11_count_122 rfl 0 rfl ?_
    refine zs_getR fl_X11_49 dX11_count_123 (sh_0 hN) rfl ?_
    refine zs_getI fl_X11_233 dX11_count_126 (sh_34 hN) rfl ?_
    exact zs_iret dX11_count_129 rfl rfl rfl
  refine zs_ite (fun h10 => ?_) (fun h10 => ?_)
  · refine zs_tswI (tgt := 130) h10 dX11_count_1 (by decide) (by decide) rfl (by decide) ?_
    refine zs_aload_n dX11_count_130 rfl 0 rfl ?_
    refine zs_getI fl_X11_112 dX11_count_131 (sh_0 hN) rfl ?_
    exact zs_iret dX11_count_134 rfl rfl rfl
  refine zs_ite (fun h11 => ?_) (fun h11 => ?_)
  · refine zs_tswI (tgt := 135) h11 dX11_count_1 (by decide) (by decide) rfl (by decide) ?_
    refine zs_aload_n dX11_count_135 rfl 0 rfl ?_
    refine zs_getR fl_X11_20 dX11_count_136 (sh_0 hN) rfl ?_
    refine zs_getI fl_X11_138 dX11_count_139 (sh_2 hN) rfl ?_
    exact zs_iret dX11_count_142 rfl rfl rfl
  refine zs_tswO (tgt := 143) dX11_count_1 (by have eh1 := lv_neT h1 (a := 0) rfl; have eh2 := lv_neT h2 (a := 1) rfl; have eh3 := lv_neT h3 (a := 2) rfl; have eh4 := lv_neT h4 (a := 3) rfl; have eh5 := lv_neT h5 (a := 4) rfl; have eh6 := lv_neT h6 (a := 5) rfl; have eh7 := lv_neT h7 (a := 6) rfl; have eh9 := lv_neT h9 (a := 7) rfl; have eh10 := lv_neT h10 (a := 8) rfl; have eh11 := lv_neT h11 (a := 9) rfl; omega) (by decide) ?_
  refine zs_iconst (v := (-1 : Int32)) dX11_count_143 ci_m1 ?_
  exact zs_iret dX11_count_144 rfl rfl rfl
