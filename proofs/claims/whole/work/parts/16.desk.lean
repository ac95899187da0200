/-! ===== models and walks: 16.desk ===== -/
/-! X11_feedWord: PillarDesk.feedWord(I)V -/
theorem dX11_feedWord_0 : decode cX11_feedWord 0 = .ok (.bipush 24, 2) := by decide +kernel
theorem dX11_feedWord_2 : decode cX11_feedWord 2 = .ok (.istore_n 2, 1) := by decide +kernel
theorem dX11_feedWord_3 : decode cX11_feedWord 3 = .ok (.iload_n 2, 1) := by decide +kernel
theorem dX11_feedWord_4 : decode cX11_feedWord 4 = .ok (.ifCond .lt 42, 3) := by decide +kernel
theorem dX11_feedWord_7 : decode cX11_feedWord 7 = .ok (.aload_n 0, 1) := by decide +kernel
theorem dX11_feedWord_8 : decode cX11_feedWord 8 = .ok (.getfield 112, 3) := by decide +kernel
theorem dX11_feedWord_11 : decode cX11_feedWord 11 = .ok (.sipush 900, 3) := by decide +kernel
theorem dX11_feedWord_14 : decode cX11_feedWord 14 = .ok (.if_icmp .ge 32, 3) := by decide +kernel
theorem dX11_feedWord_17 : decode cX11_feedWord 17 = .ok (.aload_n 0, 1) := by decide +kernel
theorem dX11_feedWord_18 : decode cX11_feedWord 18 = .ok (.getfield 9, 3) := by decide +kernel
theorem dX11_feedWord_21 : decode cX11_feedWord 21 = .ok (.aload_n 0, 1) := by decide +kernel
theorem dX11_feedWord_22 : decode cX11_feedWord 22 = .ok (.getfield 112, 3) := by decide +kernel
theorem dX11_feedWord_25 : decode cX11_feedWord 25 = .ok (.iload_n 1, 1) := by decide +kernel
theorem dX11_feedWord_26 : decode cX11_feedWord 26 = .ok (.iload_n 2, 1) := by decide +kernel
theorem dX11_feedWord_27 : decode cX11_feedWord 27 = .ok (.iushr, 1) := by decide +kernel
theorem dX11_feedWord_28 : decode cX11_feedWord 28 = .ok (.i2b, 1) := by decide +kernel
theorem dX11_feedWord_29 : decode cX11_feedWord 29 = .ok (.bastore, 1) := by decide +kernel
theorem dX11_feedWord_30 : decode cX11_feedWord 30 = .ok (.aload_n 0, 1) := by decide +kernel
theorem dX11_feedWord_31 : decode cX11_feedWord 31 = .ok (.dup, 1) := by decide +kernel
theorem dX11_feedWord_32 : decode cX11_feedWord 32 = .ok (.getfield 112, 3) := by decide +kernel
theorem dX11_feedWord_35 : decode cX11_feedWord 35 = .ok (.iconst 1, 1) := by decide +kernel
theorem dX11_feedWord_36 : decode cX11_feedWord 36 = .ok (.iadd, 1) := by decide +kernel
theorem dX11_feedWord_37 : decode cX11_feedWord 37 = .ok (.putfield 112, 3) := by decide +kernel
theorem dX11_feedWord_40 : decode cX11_feedWord 40 = .ok (.iinc 2 (-8), 3) := by decide +kernel
theorem dX11_feedWord_43 : decode cX11_feedWord 43 = .ok (.goto (-40), 3) := by decide +kernel
theorem dX11_feedWord_46 : decode cX11_feedWord 46 = .ok (.return_, 1) := by decide +kernel
def f_X11_feedWord_3   : Nat → Int32 → Int32 → zz_Mem → Option zz_Mem
  | 0, _, _, _ => none
  | n + 1, v1, v2, m =>
  if v2 < 0 then (
  some m)
  else (
  if (900 : Int32) ≤ (m.1 0 1) then (
  some m)
  else (
  zz_ix (m.1 0 1) 900 <| zz_letM (zz_setI m 1 (m.1 0 1).toNatClampNeg (vp_nar .byte (((v1.toUInt32 >>> (v2.toUInt32 &&& Int32.toUInt32 31)).toInt32).toInt8.toInt32))) fun m1 =>
  zz_letM (zz_setI m1 0 1 ((m1.1 0 1) + (1 : Int32))) fun m2 =>
  zz_letI (v2 + (-8 : Int32)) fun x3 =>
  f_X11_feedWord_3 n v1 x3 m2))
theorem t_X11_feedWord_3 {l : Launch} {G : zz_G} (hN : 107 ≤ zz_N G)  : ∀ (n : Nat) (v1 : Int32) (v2 : Int32) (m : zz_Mem), zz_Sim zz_sh l G mX11_feedWord 0 zz_vV zz_mV (f_X11_feedWord_3 n v1 v2 m) 3 [(0, .ref (zz_a G 0)), (1, .int v1), (2, .int v2)] [] m := by
  intro n
  induction n with
  | zero => intro _ _ _; exact zs_none
  | succ n ih =>
    intro v1 v2 m
    rw [f_X11_feedWord_3]
    refine zs_iload_n dX11_feedWord_3 rfl 2 rfl ?_
    refine zs_if_lt (tgt := 46) dX11_feedWord_4 (by decide) ?_ ?_
    · exact zs_vret dX11_feedWord_46 rfl rfl rfl
    · refine zs_aload_n dX11_feedWord_7 rfl 0 rfl ?_
      refine zs_getI fl_X11_112 dX11_feedWord_8 (sh_0 hN) rfl ?_
      refine zs_sipush (v := (900 : Int32)) dX11_feedWord_11 cs_900 ?_
      refine zs_icmp_ge (tgt := 46) dX11_feedWord_14 (by decide) ?_ ?_
      · exact zs_vret dX11_feedWord_46 rfl rfl rfl
      · refine zs_aload_n dX11_feedWord_17 rfl 0 rfl ?_
        refine zs_getR fl_X11_9 dX11_feedWord_18 (sh_0 hN) rfl ?_
        refine zs_aload_n dX11_feedWord_21 rfl 0 rfl ?_
        refine zs_getI fl_X11_112 dX11_feedWord_22 (sh_0 hN) rfl ?_
        refine zs_iload_n dX11_feedWord_25 rfl 1 rfl ?_
        refine zs_iload_n dX11_feedWord_26 rfl 2 rfl ?_
        refine zs_iushr dX11_feedWord_27 ?_
        refine zs_i2b dX11_feedWord_28 ?_
        refine zs_bastG dX11_feedWord_29 (sh_1 hN) (fun m1 => ?_)
        refine zs_aload_n dX11_feedWord_30 rfl 0 rfl ?_
        refine zs_dup dX11_feedWord_31 rfl ?_
        refine zs_getI fl_X11_112 dX11_feedWord_32 (sh_0 hN) rfl ?_
        refine zs_iconst (v := (1 : Int32)) dX11_feedWord_35 ci_1 ?_
        refine zs_iadd dX11_feedWord_36 ?_
        refine zs_putI fl_X11_112 dX11_feedWord_37 (sh_0 hN) rfl ⟨rfl, rfl⟩ (fun m2 => ?_)
        refine zs_iinc (fun y => [(2, .int y), (0, .ref (zz_a G 0)), (1, .int v1)]) dX11_feedWord_40 2 rfl ci_m8 (Nat.le_of_ble_eq_true rfl) (fun _ => rfl) (fun x3 => ?_)
        refine zs_goto (tgt := 3) dX11_feedWord_43 (by decide) ?_
        refine zs_sub [1, 2, 0] rfl ?_
        exact ih _ _ _
def f_X11_feedWord  (p1 : Int32) (m : zz_Mem) : Option zz_Mem :=
  f_X11_feedWord_3 zz_fuel p1 (24 : Int32) m
theorem k_X11_feedWord {l : Launch} {G : zz_G} (hN : 107 ≤ zz_N G) : ∀ (p1 : Int32) (m : zz_Mem), zz_Con zz_sh l G mX11_feedWord 0 [.ref (zz_a G 0), .int p1] zz_vV zz_mV (f_X11_feedWord p1 m) m := by
  intro p1 m
  refine zz_con (lv := [(0, .ref (zz_a G 0)), (1, .int p1)]) (by decide +kernel) (Nat.le_of_ble_eq_true rfl) rfl ?_
  unfold f_X11_feedWord
  refine zs_bipush (v := (24 : Int32)) dX11_feedWord_0 cb_24 ?_
  refine zs_istore_n [(2, .int (24 : Int32)), (0, .ref (zz_a G 0)), (1, .int p1)] dX11_feedWord_2 rfl (Nat.le_of_ble_eq_true rfl) rfl ?_
  refine zs_sub [1, 2, 0] rfl ?_
  exact t_X11_feedWord_3 hN zz_fuel _ _ _
/-! X11_feed: PillarDesk.feed(IIIII)I -/
theorem dX11_feed_0 : decode cX11_feed 0 = .ok (.aload_n 0, 1) := by decide +kernel
theorem dX11_feed_1 : decode cX11_feed 1 = .ok (.getfield 112, 3) := by decide +kernel
theorem dX11_feed_4 : decode cX11_feed 4 = .ok (.bipush 20, 2) := by decide +kernel
theorem dX11_feed_6 : decode cX11_feed 6 = .ok (.iadd, 1) := by decide +kernel
theorem dX11_feed_7 : decode cX11_feed 7 = .ok (.sipush 900, 3) := by decide +kernel
theorem dX11_feed_10 : decode cX11_feed 10 = .ok (.if_icmp .le 6, 3) := by decide +kernel
theorem dX11_feed_13 : decode cX11_feed 13 = .ok (.bipush (-5), 2) := by decide +kernel
theorem dX11_feed_15 : decode cX11_feed 15 = .ok (.ireturn, 1) := by decide +kernel
theorem dX11_feed_16 : decode cX11_feed 16 = .ok (.aload_n 0, 1) := by decide +kernel
theorem dX11_feed_17 : decode cX11_feed 17 = .ok (.iload_n 1, 1) := by decide +kernel
theorem dX11_feed_18 : decode cX11_feed 18 = .ok (.invokevirtual 115, 3) := by decide +kernel
theorem dX11_feed_21 : decode cX11_feed 21 = .ok (.aload_n 0, 1) := by decide +kernel
theorem dX11_feed_22 : decode cX11_feed 22 = .ok (.iload_n 2, 1) := by decide +kernel
theorem dX11_feed_23 : decode cX11_feed 23 = .ok (.invokevirtual 115, 3) := by decide +kernel
theorem dX11_feed_26 : decode cX11_feed 26 = .ok (.aload_n 0, 1) := by decide +kernel
theorem dX11_feed_27 : decode cX11_feed 27 = .ok (.iload_n 3, 1) := by decide +kernel
theorem dX11_feed_28 : decode cX11_feed 28 = .ok (.invokevirtual 115, 3) := by decide +kernel
theorem dX11_feed_31 : decode cX11_feed 31 = .ok (.aload_n 0, 1) := by decide +kernel
theorem dX11_feed_32 : decode cX11_feed 32 = .ok (.iload 4, 2) := by decide +kernel
theorem dX11_feed_34 : decode cX11_feed 34 = .ok (.invokevirtual 115, 3) := by decide +kernel
theorem dX11_feed_37 : decode cX11_feed 37 = .ok (.aload_n 0, 1) := by decide +kernel
theorem dX11_feed_38 : decode cX11_feed 38 = .ok (.iload 5, 2) := by decide +kernel
theorem dX11_feed_40 : decode cX11_feed 40 = .ok (.invokevirtual 115, 3) := by decide +kernel
theorem dX11_feed_43 : decode cX11_feed 43 = .ok (.aload_n 0, 1) := by decide +kernel
theorem dX11_feed_44 : decode cX11_feed 44 = .ok (.getfield 112, 3) := by decide +kernel
theorem dX11_feed_47 : decode cX11_feed 47 = .ok (.ireturn, 1) := by decide +kernel
def f_X11_feed  (p1 : Int32) (p2 : Int32) (p3 : Int32) (p4 : Int32) (p5 : Int32) (m : zz_Mem) : Option (Int32 × zz_Mem) :=
  if ((m.1 0 1) + (20 : Int32)) ≤ (900 : Int32) then (
  zz_bndR (f_X11_feedWord p1 m) fun m1 =>
  zz_bndR (f_X11_feedWord p2 m1) fun m2 =>
  zz_bndR (f_X11_feedWord p3 m2) fun m3 =>
  zz_bndR (f_X11_feedWord p4 m3) fun m4 =>
  zz_bndR (f_X11_feedWord p5 m4) fun m5 =>
  some (m5.1 0 1, m5))
  else (
  some ((-5 : Int32), m))
theorem k_X11_feed {l : Launch} {G : zz_G} (hN : 107 ≤ zz_N G) : ∀ (p1 : Int32) (p2 : Int32) (p3 : Int32) (p4 : Int32) (p5 : Int32) (m : zz_Mem), zz_Con zz_sh l G mX11_feed 1 [.ref (zz_a G 0), .int p1, .int p2, .int p3, .int p4, .int p5] zz_vI zz_m2 (f_X11_feed p1 p2 p3 p4 p5 m) m := by
  intro p1 p2 p3 p4 p5 m
  refine zz_con (lv := [(0, .ref (zz_a G 0)), (1, .int p1), (2, .int p2), (3, .int p3), (4, .int p4), (5, .int p5)]) (by decide +kernel) (Nat.le_of_ble_eq_true rfl) rfl ?_
  unfold f_X11_feed
  refine zs_aload_n dX11_feed_0 rfl 0 rfl ?_
  refine zs_getI fl_X11_112 dX11_feed_1 (sh_0 hN) rfl ?_
  refine zs_bipush (v := (20 : Int32)) dX11_feed_4 cb_20 ?_
  refine zs_iadd dX11_feed_6 ?_
  refine zs_sipush (v := (900 : Int32)) dX11_feed_7 cs_900 ?_
  refine zs_icmp_le (tgt := 16) dX11_feed_10 (by decide) ?_ ?_
  · refine zs_aload_n dX11_feed_16 rfl 0 rfl ?_
    refine zs_iload_n dX11_feed_17 rfl 1 rfl ?_
    refine zs_cV_vW (rest := []) (k_X11_feedWord hN _ _) dX11_feed_18 lv_X11_115 ok_X11_feedWord (zz_rcv_o (sh_0 hN) rfl) (Nat.le_of_ble_eq_true rfl) rfl rfl (Nat.le_of_ble_eq_true rfl) (fun m1 => ?_)
    refine zs_aload_n dX11_feed_21 rfl 0 rfl ?_
    refine zs_iload_n dX11_feed_22 rfl 2 rfl ?_
    refine zs_cV_vW (rest := []) (k_X11_feedWord hN _ _) dX11_feed_23 lv_X11_115 ok_X11_feedWord (zz_rcv_o (sh_0 hN) rfl) (Nat.le_of_ble_eq_true rfl) rfl rfl (Nat.le_of_ble_eq_true rfl) (fun m2 => ?_)
    refine zs_aload_n dX11_feed_26 rfl 0 rfl ?_
    refine zs_iload_n dX11_feed_27 rfl 3 rfl ?_
    refine zs_cV_vW (rest := []) (k_X11_feedWord hN _ _) dX11_feed_28 lv_X11_115 ok_X11_feedWord (zz_rcv_o (sh_0 hN) rfl) (Nat.le_of_ble_eq_true rfl) rfl rfl (Nat.le_of_ble_eq_true rfl) (fun m3 => ?_)
    refine zs_aload_n dX11_feed_31 rfl 0 rfl ?_
    refine zs_iload dX11_feed_32 4 rfl ?_
    refine zs_cV_vW (rest := []) (k_X11_feedWord hN _ _) dX11_feed_34 lv_X11_115 ok_X11_feedWord (zz_rcv_o (sh_0 hN) rfl) (Nat.le_of_ble_eq_true rfl) rfl rfl (Nat.le_of_ble_eq_true rfl) (fun m4 => ?_)
    refine zs_aload_n dX11_feed_37 rfl 0 rfl ?_
    refine zs_iload dX11_feed_38 5 rfl ?_
    refine zs_cV_vW (rest := []) (k_X11_feedWord hN _ _) dX11_feed_40 lv_X11_115 ok_X11_feedWord (zz_rcv_o (sh_0 hN) rfl) (Nat.le_of_ble_eq_true rfl) rfl rfl (Nat.le_of_ble_eq_true rfl) (fun m5 => ?_)
    refine zs_aload_n dX11_feed_43 rfl 0 rfl ?_
    refine zs_getI fl_X11_112 dX11_feed_44 (sh_0 hN) rfl ?_
    exact zs_iret dX11_feed_47 rfl rfl rfl
  · refine zs_bipush (v := (-5 : Int32)) dX11_feed_13 cb_m5 ?_
    exact zs_iret dX11_feed_15 rfl rfl rfl
/-! X11_desk: PillarDesk.desk(I)I -/
theorem dX11_desk_0 : decode cX11_desk 0 = .ok (.iload_n 1, 1) := by decide +kernel
theorem dX11_desk_1 : decode cX11_desk 1 = .ok (.ifCond .lt 11, 3) := by decide +kernel
theorem dX11_desk_4 : decode cX11_desk 4 = .ok (.iload_n 1, 1) := by decide +kernel
theorem dX11_desk_5 : decode cX11_desk 5 = .ok (.aload_n 0, 1) := by decide +kernel
theorem dX11_desk_6 : decode cX11_desk 6 = .ok (.getfield 112, 3) := by decide +kernel
theorem dX11_desk_9 : decode cX11_desk 9 = .ok (.if_icmp .le 6, 3) := by decide +kernel
theorem dX11_desk_12 : decode cX11_desk 12 = .ok (.bipush (-3), 2) := by decide +kernel
theorem dX11_desk_14 : decode cX11_desk 14 = .ok (.ireturn, 1) := by decide +kernel
theorem dX11_desk_15 : decode cX11_desk 15 = .ok (.aload_n 0, 1) := by decide +kernel
theorem dX11_desk_16 : decode cX11_desk 16 = .ok (.iconst 0, 1) := by decide +kernel
theorem dX11_desk_17 : decode cX11_desk 17 = .ok (.putfield 112, 3) := by decide +kernel
theorem dX11_desk_20 : decode cX11_desk 20 = .ok (.aload_n 0, 1) := by decide +kernel
theorem dX11_desk_21 : decode cX11_desk 21 = .ok (.getfield 32, 3) := by decide +kernel
theorem dX11_desk_24 : decode cX11_desk 24 = .ok (.aload_n 0, 1) := by decide +kernel
theorem dX11_desk_25 : decode cX11_desk 25 = .ok (.getfield 9, 3) := by decide +kernel
theorem dX11_desk_28 : decode cX11_desk 28 = .ok (.iload_n 1, 1) := by decide +kernel
theorem dX11_desk_29 : decode cX11_desk 29 = .ok (.invokevirtual 119, 3) := by decide +kernel
theorem dX11_desk_32 : decode cX11_desk 32 = .ok (.aload_n 0, 1) := by decide +kernel
theorem dX11_desk_33 : decode cX11_desk 33 = .ok (.aload_n 0, 1) := by decide +kernel
theorem dX11_desk_34 : decode cX11_desk 34 = .ok (.getfield 32, 3) := by decide +kernel
theorem dX11_desk_37 : decode cX11_desk 37 = .ok (.getfield 123, 3) := by decide +kernel
theorem dX11_desk_40 : decode cX11_desk 40 = .ok (.putfield 126, 3) := by decide +kernel
theorem dX11_desk_43 : decode cX11_desk 43 = .ok (.aload_n 0, 1) := by decide +kernel
theorem dX11_desk_44 : decode cX11_desk 44 = .ok (.aload_n 0, 1) := by decide +kernel
theorem dX11_desk_45 : decode cX11_desk 45 = .ok (.getfield 32, 3) := by decide +kernel
theorem dX11_desk_48 : decode cX11_desk 48 = .ok (.getfield 129, 3) := by decide +kernel
theorem dX11_desk_51 : decode cX11_desk 51 = .ok (.putfield 13, 3) := by decide +kernel
theorem dX11_desk_54 : decode cX11_desk 54 = .ok (.aload_n 0, 1) := by decide +kernel
theorem dX11_desk_55 : decode cX11_desk 55 = .ok (.getfield 126, 3) := by decide +kernel
theorem dX11_desk_58 : decode cX11_desk 58 = .ok (.ifCond .eq 11, 3) := by decide +kernel
theorem dX11_desk_61 : decode cX11_desk 61 = .ok (.bipush (-30), 2) := by decide +kernel
theorem dX11_desk_63 : decode cX11_desk 63 = .ok (.aload_n 0, 1) := by decide +kernel
theorem dX11_desk_64 : decode cX11_desk 64 = .ok (.getfield 126, 3) := by decide +kernel
theorem dX11_desk_67 : decode cX11_desk 67 = .ok (.isub, 1) := by decide +kernel
theorem dX11_desk_68 : decode cX11_desk 68 = .ok (.ireturn, 1) := by decide +kernel
theorem dX11_desk_69 : decode cX11_desk 69 = .ok (.aload_n 0, 1) := by decide +kernel
theorem dX11_desk_70 : decode cX11_desk 70 = .ok (.getfield 20, 3) := by decide +kernel
theorem dX11_desk_73 : decode cX11_desk 73 = .ok (.aload_n 0, 1) := by decide +kernel
theorem dX11_desk_74 : decode cX11_desk 74 = .ok (.getfield 24, 3) := by decide +kernel
theorem dX11_desk_77 : decode cX11_desk 77 = .ok (.invokevirtual 132, 3) := by decide +kernel
theorem dX11_desk_80 : decode cX11_desk 80 = .ok (.aload_n 0, 1) := by decide +kernel
theorem dX11_desk_81 : decode cX11_desk 81 = .ok (.getfield 49, 3) := by decide +kernel
theorem dX11_desk_84 : decode cX11_desk 84 = .ok (.invokevirtual 135, 3) := by decide +kernel
theorem dX11_desk_87 : decode cX11_desk 87 = .ok (.aload_n 0, 1) := by decide +kernel
theorem dX11_desk_88 : decode cX11_desk 88 = .ok (.getfield 66, 3) := by decide +kernel
theorem dX11_desk_91 : decode cX11_desk 91 = .ok (.invokevirtual 109, 3) := by decide +kernel
theorem dX11_desk_94 : decode cX11_desk 94 = .ok (.aload_n 0, 1) := by decide +kernel
theorem dX11_desk_95 : decode cX11_desk 95 = .ok (.iconst 1, 1) := by decide +kernel
theorem dX11_desk_96 : decode cX11_desk 96 = .ok (.putfield 104, 3) := by decide +kernel
theorem dX11_desk_99 : decode cX11_desk 99 = .ok (.aload_n 0, 1) := by decide +kernel
theorem dX11_desk_100 : decode cX11_desk 100 = .ok (.getfield 20, 3) := by decide +kernel
theorem dX11_desk_103 : decode cX11_desk 103 = .ok (.getfield 138, 3) := by decide +kernel
theorem dX11_desk_106 : decode cX11_desk 106 = .ok (.ireturn, 1) := by decide +kernel
def f_X11_desk  (p1 : Int32) (m : zz_Mem) : Option (Int32 × zz_Mem) :=
  if p1 < 0 then (
  some ((-3 : Int32), m))
  else (
  if p1 ≤ (m.1 0 1) then (
  zz_letM (zz_setI m 0 1 (0 : Int32)) fun m1 =>
  zz_bndR (f_X7_read p1 m1) fun m2 =>
  zz_letM (zz_setI m2 0 2 (m2.1 30 7)) fun m3 =>
  zz_letM (zz_setI m3 0 3 (m3.1 30 8)) fun m4 =>
  if (m4.1 0 2) = 0 then (
  zz_bndR (f_X6_copyFrom 2 16 m4) fun m5 =>
  zz_bndR (f_X5_clear m5) fun m6 =>
  zz_bndR (f_X8_lay m6) fun m7 =>
  zz_letM (zz_setI m7 0 18 (1 : Int32)) fun m8 =>
  some (m8.1 2 2, m8))
  else (
  some ((-30 : Int32) - (m4.1 0 2), m4)))
  else (
  some ((-3 : Int32), m)))
theorem k_X11_desk {l : Launch} {G : zz_G} (hN : 107 ≤ zz_N G) : ∀ (p1 : Int32) (m : zz_Mem), zz_Con zz_sh l G mX11_desk 71 [.ref (zz_a G 0), .int p1] zz_vI zz_m2 (f_X11_desk p1 m) m := by
  intro p1 m
  refine zz_con (lv := [(0, .ref (zz_a G 0)), (1, .int p1)]) (by decide +kernel) (Nat.le_of_ble_eq_true rfl) rfl ?_
  unfold f_X11_desk
  refine zs_iload_n dX11_desk_0 rfl 1 rfl ?_
  refine zs_if_lt (tgt := 12) dX11_desk_1 (by decide) ?_ ?_
  · refine zs_bipush (v := (-3 : Int32)) dX11_desk_12 cb_m3 ?_
    exact zs_iret dX11_desk_14 rfl rfl rfl
  · refine zs_iload_n dX11_desk_4 rfl 1 rfl ?_
    refine zs_aload_n dX11_desk_5 rfl 0 rfl ?_
    refine zs_getI fl_X11_112 dX11_desk_6 (sh_0 hN) rfl ?_
    refine zs_icmp_le (tgt := 15) dX11_desk_9 (by decide) ?_ ?_
    · refine zs_aload_n dX11_desk_15 rfl 0 rfl ?_
      refine zs_iconst (v := (0 : Int32)) dX11_desk_16 ci_0 ?_
      refine zs_putI fl_X11_112 dX11_desk_17 (sh_0 hN) rfl ⟨rfl, rfl⟩ (fun m1 => ?_)
      refine zs_aload_n dX11_desk_20 rfl 0 rfl ?_
      refine zs_getR fl_X11_32 dX11_desk_21 (sh_0 hN) rfl ?_
      refine zs_aload_n dX11_desk_24 rfl 0 rfl ?_
      refine zs_getR fl_X11_9 dX11_desk_25 (sh_0 hN) rfl ?_
      refine zs_iload_n dX11_desk_28 rfl 1 rfl ?_
      refine zs_cV_vW (rest := []) (k_X7_read hN _ _) dX11_desk_29 lv_X11_119 ok_X7_read (zz_rcv_o (sh_30 hN) rfl) (Nat.le_of_ble_eq_true rfl) rfl rfl (Nat.le_of_ble_eq_true rfl) (fun m2 => ?_)
      refine zs_aload_n dX11_desk_32 rfl 0 rfl ?_
      refine zs_aload_n dX11_desk_33 rfl 0 rfl ?_
      refine zs_getR fl_X11_32 dX11_desk_34 (sh_0 hN) rfl ?_
      refine zs_getI fl_X11_123 dX11_desk_37 (sh_30 hN) rfl ?_
      refine zs_putI fl_X11_126 dX11_desk_40 (sh_0 hN) rfl ⟨rfl, rfl⟩ (fun m3 => ?_)
      refine zs_aload_n dX11_desk_43 rfl 0 rfl ?_
      refine zs_aload_n dX11_desk_44 rfl 0 rfl ?_
      refine zs_getR fl_X11_32 dX11_desk_45 (sh_0 hN) rfl ?_
      refine zs_getI fl_X11_129 dX11_desk_48 (sh_30 hN) rfl ?_
      refine zs_putI fl_X11_13 dX11_desk_51 (sh_0 hN) rfl ⟨rfl, rfl⟩ (fun m4 => ?_)
      refine zs_aload_n dX11_desk_54 rfl 0 rfl ?_
      refine zs_getI fl_X11_126 dX11_desk_55 (sh_0 hN) rfl ?_
      refine zs_if_eq (tgt := 69) dX11_desk_58 (by decide) ?_ ?_
      · refine zs_aload_n dX11_desk_69 rfl 0 rfl ?_
        refine zs_getR fl_X11_20 dX11_desk_70 (sh_0 hN) rfl ?_
        refine zs_aload_n dX11_desk_73 rfl 0 rfl ?_
        refine zs_getR fl_X11_24 dX11_desk_74 (sh_0 hN) rfl ?_
        refine zs_cV_vW (rest := []) (k_X6_copyFrom hN ((isPlan_2 hN)) ((isPlan_16 hN))  _) dX11_desk_77 lv_X11_132 ok_X6_copyFrom (zz_rcv_o (sh_2 hN) rfl) (Nat.le_of_ble_eq_true rfl) rfl rfl (Nat.le_of_ble_eq_true rfl) (fun m5 => ?_)
        refine zs_aload_n dX11_desk_80 rfl 0 rfl ?_
        refine zs_getR fl_X11_49 dX11_desk_81 (sh_0 hN) rfl ?_
        refine zs_cV_vW (rest := []) (k_X5_clear hN  _) dX11_desk_84 lv_X11_135 ok_X5_clear (zz_rcv_o (sh_34 hN) rfl) (Nat.le_of_ble_eq_true rfl) rfl rfl (Nat.le_of_ble_eq_true rfl) (fun m6 => ?_)
        refine zs_aload_n dX11_desk_87 rfl 0 rfl ?_
        refine zs_getR fl_X11_66 dX11_desk_88 (sh_0 hN) rfl ?_
        refine zs_cV_vW (rest := []) (k_X8_lay hN  _) dX11_desk_91 lv_X11_109 ok_X8_lay (zz_rcv_o (sh_72 hN) rfl) (Nat.le_of_ble_eq_true rfl) rfl rfl (Nat.le_of_ble_eq_true rfl) (fun m7 => ?_)
        refine zs_aload_n dX11_desk_94 rfl 0 rfl ?_
        refine zs_iconst (v := (1 : Int32)) dX11_desk_95 ci_1 ?_
        refine zs_putI fl_X11_104 dX11_desk_96 (sh_0 hN) rfl ⟨rfl, rfl⟩ (fun m8 => ?_)
        refine zs_aload_n dX11_desk_99 rfl 0 rfl ?_
        refine zs_getR fl_X11_20 dX11_desk_100 (sh_0 hN) rfl ?_
        refine zs_getI fl_X11_138 dX11_desk_103 (sh_2 hN) rfl ?_
        exact zs_iret dX11_desk_106 rfl rfl rfl
      · refine zs_bipush (v := (-30 : Int32)) dX11_desk_61 cb_m30 ?_
        refine zs_aload_n dX11_desk_63 rfl 0 rfl ?_
        refine zs_getI fl_X11_126 dX11_desk_64 (sh_0 hN) rfl ?_
        refine zs_isub dX11_desk_67 ?_
        exact zs_iret dX11_desk_68 rfl rfl rfl
    · refine zs_bipush (v := (-3 : Int32)) dX11_desk_12 cb_m3 ?_
      exact zs_iret dX11_desk_14 rfl rfl rfl
/-! X11_fault: PillarDesk.fault(I)I -/
theorem dX11_fault_0 : decode cX11_fault 0 = .ok (.iload_n 1, 1) := by decide +kernel
theorem dX11_fault_1 : decode cX11_fault 1 = .ok (.lookupswitch 37 #[(0, 27), (1, 32)], 27) := by decide +kernel
theorem dX11_fault_28 : decode cX11_fault 28 = .ok (.aload_n 0, 1) := by decide +kernel
theorem dX11_fault_29 : decode cX11_fault 29 = .ok (.getfield 126, 3) := by decide +kernel
theorem dX11_fault_32 : decode cX11_fault 32 = .ok (.ireturn, 1) := by decide +kernel
theorem dX11_fault_33 : decode cX11_fault 33 = .ok (.aload_n 0, 1) := by decide +kernel
theorem dX11_fault_34 : decode cX11_fault 34 = .ok (.getfield 13, 3) := by decide +kernel
theorem dX11_fault_37 : decode cX11_fault 37 = .ok (.ireturn, 1) := by decide +kernel
theorem dX11_fault_38 : decode cX11_fault 38 = .ok (.iconst (-1), 1) := by decide +kernel
theorem dX11_fault_39 : decode cX11_fault 39 = .ok (.ireturn, 1) := by decide +kernel
def f_X11_fault (m : zz_Mem) (p1 : Int32) : Option Int32 :=
  if p1 = (0 : Int32) then (
  some (m.1 0 2))
  else if p1 = (1 : Int32) then (
  some (m.1 0 3))
  else (
  some (-1 : Int32))
theorem k_X11_fault {l : Launch} {G : zz_G} (hN : 107 ≤ zz_N G) : ∀ (p1 : Int32) (m : zz_Mem), zz_Con zz_sh l G mX11_fault 0 [.ref (zz_a G 0), .int p1] zz_vIr (zz_mC m) (f_X11_fault m p1) m := by
  intro p1 m
  refine zz_con (lv := [(0, .ref (zz_a G 0)), (1, .int p1)]) (by decide +kernel) (Nat.le_of_ble_eq_true rfl) rfl ?_
  unfold f_X11_fault
  refine zs_iload_n dX11_fault_0 rfl 1 rfl ?_
  refine zs_ite (fun h1 => ?_) (fun h1 => ?_)
  · refine zs_lsw (tgt := 28) (off := 27) dX11_fault_1 (by decide) (by first | (rw [h1]; done) | (rw [h1]; rfl)) (by decide) ?_
    refine zs_aload_n dX11_fault_28 rfl 0 rfl ?_
    refine zs_getI fl_X11_126 dX11_fault_29 (sh_0 hN) rfl ?_
    exact zs_iret dX11_fault_32 rfl rfl rfl
  refine zs_ite (fun h2 => ?_) (fun h2 => ?_)
  · refine zs_lsw (tgt := 33) (off := 32) dX11_fault_1 (by decide) (by first | (rw [h2]; done) | (rw [h2]; rfl)) (by decide) ?_
    refine zs_aload_n dX11_fault_33 rfl 0 rfl ?_
    refine zs_getI fl_X11_13 dX11_fault_34 (sh_0 hN) rfl ?_
    exact zs_iret dX11_fault_37 rfl rfl rfl
  refine zs_lsw (tgt := 38) (off := 37) dX11_fault_1 (by decide) (by show Op.lookupswitch.offset [(0, 27), (1, 32)] 37 _ = _; rw [lv_osw (a := 0) h1 rfl, lv_osw (a := 1) h2 rfl]; rfl) (by decide) ?_
  refine zs_iconst (v := (-1 : Int32)) dX11_fault_38 ci_m1 ?_
  exact zs_iret dX11_fault_39 rfl rfl rfl
/-! X11_solvedNow: PillarDesk.solvedNow()LPillarDesk$Curve; -/
theorem dX11_solvedNow_0 : decode cX11_solvedNow 0 = .ok (.aload_n 0, 1) := by decide +kernel
theorem dX11_solvedNow_1 : decode cX11_solvedNow 1 = .ok (.getfield 104, 3) := by decide +kernel
theorem dX11_solvedNow_4 : decode cX11_solvedNow 4 = .ok (.ifCond .eq 40, 3) := by decide +kernel
theorem dX11_solvedNow_7 : decode cX11_solvedNow 7 = .ok (.aload_n 0, 1) := by decide +kernel
theorem dX11_solvedNow_8 : decode cX11_solvedNow 8 = .ok (.getfield 75, 3) := by decide +kernel
theorem dX11_solvedNow_11 : decode cX11_solvedNow 11 = .ok (.aload_n 0, 1) := by decide +kernel
theorem dX11_solvedNow_12 : decode cX11_solvedNow 12 = .ok (.getfield 20, 3) := by decide +kernel
theorem dX11_solvedNow_15 : decode cX11_solvedNow 15 = .ok (.getfield 160, 3) := by decide +kernel
theorem dX11_solvedNow_18 : decode cX11_solvedNow 18 = .ok (.aload_n 0, 1) := by decide +kernel
theorem dX11_solvedNow_19 : decode cX11_solvedNow 19 = .ok (.getfield 20, 3) := by decide +kernel
theorem dX11_solvedNow_22 : decode cX11_solvedNow 22 = .ok (.getfield 160, 3) := by decide +kernel
theorem dX11_solvedNow_25 : decode cX11_solvedNow 25 = .ok (.getfield 224, 3) := by decide +kernel
theorem dX11_solvedNow_28 : decode cX11_solvedNow 28 = .ok (.invokevirtual 268, 3) := by decide +kernel
theorem dX11_solvedNow_31 : decode cX11_solvedNow 31 = .ok (.aload_n 0, 1) := by decide +kernel
theorem dX11_solvedNow_32 : decode cX11_solvedNow 32 = .ok (.getfield 75, 3) := by decide +kernel
theorem dX11_solvedNow_35 : decode cX11_solvedNow 35 = .ok (.iconst 1, 1) := by decide +kernel
theorem dX11_solvedNow_36 : decode cX11_solvedNow 36 = .ok (.invokevirtual 272, 3) := by decide +kernel
theorem dX11_solvedNow_39 : decode cX11_solvedNow 39 = .ok (.aload_n 0, 1) := by decide +kernel
theorem dX11_solvedNow_40 : decode cX11_solvedNow 40 = .ok (.iconst 0, 1) := by decide +kernel
theorem dX11_solvedNow_41 : decode cX11_solvedNow 41 = .ok (.putfield 104, 3) := by decide +kernel
theorem dX11_solvedNow_44 : decode cX11_solvedNow 44 = .ok (.aload_n 0, 1) := by decide +kernel
theorem dX11_solvedNow_45 : decode cX11_solvedNow 45 = .ok (.getfield 75, 3) := by decide +kernel
theorem dX11_solvedNow_48 : decode cX11_solvedNow 48 = .ok (.areturn, 1) := by decide +kernel
def f_X11_solvedNow   (m : zz_Mem) : Option zz_Mem :=
  if (m.1 0 18) = 0 then (
  some m)
  else (
  zz_bndR (f_X1_countRates 83 13 (m.1 13 2) m) fun m1 =>
  zz_bndR (f_X1_solve 83 (1 : Int32) m1) fun m2 =>
  zz_letM (zz_setI m2 0 18 (0 : Int32)) fun m3 =>
  some m3)
theorem k_X11_solvedNow {l : Launch} {G : zz_G} (hN : 107 ≤ zz_N G) : ∀ (m : zz_Mem), zz_Con zz_sh l G mX11_solvedNow 5 [.ref (zz_a G 0)] (zz_vA G 83) zz_mV (f_X11_solvedNow m) m := by
  intro m
  refine zz_con (lv := [(0, .ref (zz_a G 0))]) (by decide +kernel) (Nat.le_of_ble_eq_true rfl) rfl ?_
  unfold f_X11_solvedNow
  refine zs_aload_n dX11_solvedNow_0 rfl 0 rfl ?_
  refine zs_getI fl_X11_104 dX11_solvedNow_1 (sh_0 hN) rfl ?_
  refine zs_if_eq (tgt := 44) dX11_solvedNow_4 (by decide) ?_ ?_
  · refine zs_aload_n dX11_solvedNow_44 rfl 0 rfl ?_
    refine zs_getR fl_X11_75 dX11_solvedNow_45 (sh_0 hN) rfl ?_
    exact zs_aret dX11_solvedNow_48 rfl rfl rfl
  · refine zs_aload_n dX11_solvedNow_7 rfl 0 rfl ?_
    refine zs_getR fl_X11_75 dX11_solvedNow_8 (sh_0 hN) rfl ?_
    refine zs_aload_n dX11_solvedNow_11 rfl 0 rfl ?_
    refine zs_getR fl_X11_20 dX11_solvedNow_12 (sh_0 hN) rfl ?_
    refine zs_getR fl_X11_160 dX11_solvedNow_15 (sh_2 hN) rfl ?_
    refine zs_aload_n dX11_solvedNow_18 rfl 0 rfl ?_
    refine zs_getR fl_X11_20 dX11_solvedNow_19 (sh_0 hN) rfl ?_
    refine zs_getR fl_X11_160 dX11_solvedNow_22 (sh_2 hN) rfl ?_
    refine zs_getI fl_X11_224 dX11_solvedNow_25 (sh_13 hN) rfl ?_
    refine zs_cV_vW (rest := []) (k_X1_countRates hN ((isCurve_83 hN)) ((isStand_13 hN)) _ _) dX11_solvedNow_28 lv_X11_268 ok_X1_countRates (zz_rcv_o (sh_83 hN) rfl) (Nat.le_of_ble_eq_true rfl) rfl rfl (Nat.le_of_ble_eq_true rfl) (fun m1 => ?_)
    refine zs_aload_n dX11_solvedNow_31 rfl 0 rfl ?_
    refine zs_getR fl_X11_75 dX11_solvedNow_32 (sh_0 hN) rfl ?_
    refine zs_iconst (v := (1 : Int32)) dX11_solvedNow_35 ci_1 ?_
    refine zs_cV_vW (rest := []) (k_X1_solve hN ((isCurve_83 hN)) _ _) dX11_solvedNow_36 lv_X11_272 ok_X1_solve (zz_rcv_o (sh_83 hN) rfl) (Nat.le_of_ble_eq_true rfl) rfl rfl (Nat.le_of_ble_eq_true rfl) (fun m2 => ?_)
    refine zs_aload_n dX11_solvedNow_39 rfl 0 rfl ?_
    refine zs_iconst (v := (0 : Int32)) dX11_solvedNow_40 ci_0 ?_
    refine zs_putI fl_X11_104 dX11_solvedNow_41 (sh_0 hN) rfl ⟨rfl, rfl⟩ (fun m3 => ?_)
    refine zs_aload_n dX11_solvedNow_44 rfl 0 rfl ?_
    refine zs_getR fl_X11_75 dX11_solvedNow_45 (sh_0 hN) rfl ?_
    exact zs_aret dX11_solvedNow_48 rfl rfl rfl
/-! X11_input: PillarDesk.input(II)I -/
theorem dX11_input_0 : decode cX11_input 0 = .ok (.aload_n 0, 1) := by decide +kernel
theorem dX11_input_1 : decode cX11_input 1 = .ok (.getfield 20, 3) := by decide +kernel
theorem dX11_input_4 : decode cX11_input 4 = .ok (.iload_n 1, 1) := by decide +kernel
theorem dX11_input_5 : decode cX11_input 5 = .ok (.invokevirtual 141, 3) := by decide +kernel
theorem dX11_input_8 : decode cX11_input 8 = .ok (.ifCond .ne 6, 3) := by decide +kernel
theorem dX11_input_11 : decode cX11_input 11 = .ok (.bipush (-2), 2) := by decide +kernel
theorem dX11_input_13 : decode cX11_input 13 = .ok (.ireturn, 1) := by decide +kernel
theorem dX11_input_14 : decode cX11_input 14 = .ok (.iload_n 2, 1) := by decide +kernel
theorem dX11_input_15 : decode cX11_input 15 = .ok (.tableswitch 151 0 8 #[49, 59, 69, 79, 89, 99, 112, 122, 132], 49) := by decide +kernel
theorem dX11_input_64 : decode cX11_input 64 = .ok (.aload_n 0, 1) := by decide +kernel
theorem dX11_input_65 : decode cX11_input 65 = .ok (.getfield 20, 3) := by decide +kernel
theorem dX11_input_68 : decode cX11_input 68 = .ok (.getfield 145, 3) := by decide +kernel
theorem dX11_input_71 : decode cX11_input 71 = .ok (.iload_n 1, 1) := by decide +kernel
theorem dX11_input_72 : decode cX11_input 72 = .ok (.iaload, 1) := by decide +kernel
theorem dX11_input_73 : decode cX11_input 73 = .ok (.ireturn, 1) := by decide +kernel
theorem dX11_input_74 : decode cX11_input 74 = .ok (.aload_n 0, 1) := by decide +kernel
theorem dX11_input_75 : decode cX11_input 75 = .ok (.getfield 20, 3) := by decide +kernel
theorem dX11_input_78 : decode cX11_input 78 = .ok (.getfield 148, 3) := by decide +kernel
theorem dX11_input_81 : decode cX11_input 81 = .ok (.iload_n 1, 1) := by decide +kernel
theorem dX11_input_82 : decode cX11_input 82 = .ok (.iaload, 1) := by decide +kernel
theorem dX11_input_83 : decode cX11_input 83 = .ok (.ireturn, 1) := by decide +kernel
theorem dX11_input_84 : decode cX11_input 84 = .ok (.aload_n 0, 1) := by decide +kernel
theorem dX11_input_85 : decode cX11_input 85 = .ok (.getfield 20, 3) := by decide +kernel
theorem dX11_input_88 : decode cX11_input 88 = .ok (.getfield 151, 3) := by decide +kernel
theorem dX11_input_91 : decode cX11_input 91 = .ok (.iload_n 1, 1) := by decide +kernel
theorem dX11_input_92 : decode cX11_input 92 = .ok (.iaload, 1) := by decide +kernel
theorem dX11_input_93 : decode cX11_input 93 = .ok (.ireturn, 1) := by decide +kernel
theorem dX11_input_94 : decode cX11_input 94 = .ok (.aload_n 0, 1) := by decide +kernel
theorem dX11_input_95 : decode cX11_input 95 = .ok (.getfield 66, 3) := by decide +kernel
theorem dX11_input_98 : decode cX11_input 98 = .ok (.getfield 154, 3) := by decide +kernel
theorem dX11_input_101 : decode cX11_input 101 = .ok (.iload_n 1, 1) := by decide +kernel
theorem dX11_input_102 : decode cX11_input 102 = .ok (.iaload, 1) := by decide +kernel
theorem dX11_input_103 : decode cX11_input 103 = .ok (.ireturn, 1) := by decide +kernel
theorem dX11_input_104 : decode cX11_input 104 = .ok (.aload_n 0, 1) := by decide +kernel
theorem dX11_input_105 : decode cX11_input 105 = .ok (.getfield 66, 3) := by decide +kernel
theorem dX11_input_108 : decode cX11_input 108 = .ok (.getfield 157, 3) := by decide +kernel
theorem dX11_input_111 : decode cX11_input 111 = .ok (.iload_n 1, 1) := by decide +kernel
theorem dX11_input_112 : decode cX11_input 112 = .ok (.iaload, 1) := by decide +kernel
theorem dX11_input_113 : decode cX11_input 113 = .ok (.ireturn, 1) := by decide +kernel
theorem dX11_input_114 : decode cX11_input 114 = .ok (.aload_n 0, 1) := by decide +kernel
theorem dX11_input_115 : decode cX11_input 115 = .ok (.getfield 20, 3) := by decide +kernel
theorem dX11_input_118 : decode cX11_input 118 = .ok (.getfield 160, 3) := by decide +kernel
theorem dX11_input_121 : decode cX11_input 121 = .ok (.getfield 163, 3) := by decide +kernel
theorem dX11_input_124 : decode cX11_input 124 = .ok (.iload_n 1, 1) := by decide +kernel
theorem dX11_input_125 : decode cX11_input 125 = .ok (.iaload, 1) := by decide +kernel
theorem dX11_input_126 : decode cX11_input 126 = .ok (.ireturn, 1) := by decide +kernel
theorem dX11_input_127 : decode cX11_input 127 = .ok (.aload_n 0, 1) := by decide +kernel
theorem dX11_input_128 : decode cX11_input 128 = .ok (.invokevirtual 166, 3) := by decide +kernel
theorem dX11_input_131 : decode cX11_input 131 = .ok (.getfield 170, 3) := by decide +kernel
theorem dX11_input_134 : decode cX11_input 134 = .ok (.iload_n 1, 1) := by decide +kernel
theorem dX11_input_135 : decode cX11_input 135 = .ok (.iaload, 1) := by decide +kernel
theorem dX11_input_136 : decode cX11_input 136 = .ok (.ireturn, 1) := by decide +kernel
theorem dX11_input_137 : decode cX11_input 137 = .ok (.aload_n 0, 1) := by decide +kernel
theorem dX11_input_138 : decode cX11_input 138 = .ok (.getfield 20, 3) := by decide +kernel
theorem dX11_input_141 : decode cX11_input 141 = .ok (.getfield 173, 3) := by decide +kernel
theorem dX11_input_144 : decode cX11_input 144 = .ok (.iload_n 1, 1) := by decide +kernel
theorem dX11_input_145 : decode cX11_input 145 = .ok (.iaload, 1) := by decide +kernel
theorem dX11_input_146 : decode cX11_input 146 = .ok (.ireturn, 1) := by decide +kernel
theorem dX11_input_147 : decode cX11_input 147 = .ok (.aload_n 0, 1) := by decide +kernel
theorem dX11_input_148 : decode cX11_input 148 = .ok (.getfield 66, 3) := by decide +kernel
theorem dX11_input_151 : decode cX11_input 151 = .ok (.getfield 176, 3) := by decide +kernel
theorem dX11_input_154 : decode cX11_input 154 = .ok (.iload_n 1, 1) := by decide +kernel
theorem dX11_input_155 : decode cX11_input 155 = .ok (.iaload, 1) := by decide +kernel
theorem dX11_input_156 : decode cX11_input 156 = .ok (.iconst (-1), 1) := by decide +kernel
theorem dX11_input_157 : decode cX11_input 157 = .ok (.if_icmp .ne 7, 3) := by decide +kernel
theorem dX11_input_160 : decode cX11_input 160 = .ok (.iconst 1, 1) := by decide +kernel
theorem dX11_input_161 : decode cX11_input 161 = .ok (.goto 4, 3) := by decide +kernel
theorem dX11_input_164 : decode cX11_input 164 = .ok (.iconst 0, 1) := by decide +kernel
theorem dX11_input_165 : decode cX11_input 165 = .ok (.ireturn, 1) := by decide +kernel
theorem dX11_input_166 : decode cX11_input 166 = .ok (.bipush (-2), 2) := by decide +kernel
theorem dX11_input_168 : decode cX11_input 168 = .ok (.ireturn, 1) := by decide +kernel
def f_X11_input  (p1 : Int32) (p2 : Int32) (m : zz_Mem) : Option (Int32 × zz_Mem) :=
  zz_bndR (f_X6_hasInput m p1) fun r1 =>
  if r1 = 0 then (
  some ((-2 : Int32), m))
  else (
  if p2 = (0 : Int32) then (
  zz_ix p1 8 <|
  some (m.1 4 p1.toNatClampNeg, m))
  else if p2 = (1 : Int32) then (
  zz_ix p1 8 <|
  some (m.1 5 p1.toNatClampNeg, m))
  else if p2 = (2 : Int32) then (
  zz_ix p1 8 <|
  some (m.1 6 p1.toNatClampNeg, m))
  else if p2 = (3 : Int32) then (
  zz_ix p1 8 <|
  some (m.1 73 p1.toNatClampNeg, m))
  else if p2 = (4 : Int32) then (
  zz_ix p1 8 <|
  some (m.1 74 p1.toNatClampNeg, m))
  else if p2 = (5 : Int32) then (
  zz_ix p1 8 <|
  some (m.1 14 p1.toNatClampNeg, m))
  else if p2 = (6 : Int32) then (
  zz_bndR (f_X11_solvedNow m) fun m9 =>
  zz_ix p1 8 <|
  some (m9.1 84 p1.toNatClampNeg, m9))
  else if p2 = (7 : Int32) then (
  zz_ix p1 8 <|
  some (m.1 7 p1.toNatClampNeg, m))
  else if p2 = (8 : Int32) then (
  zz_ix p1 8 <|
  if (m.1 77 p1.toNatClampNeg) = (-1 : Int32) then (
  some ((1 : Int32), m))
  else (
  some ((0 : Int32), m)))
  else (
  some ((-2 : Int32), m)))
theorem k_X11_input {l : Launch} {G : zz_G} (hN : 107 ≤ zz_N G) : ∀ (p1 : Int32) (p2 : Int32) (m : zz_Mem), zz_Con zz_sh l G mX11_input 6 [.ref (zz_a G 0), .int p1, .int p2] zz_vI zz_m2 (f_X11_input p1 p2 m) m := by
  intro p1 p2 m
  refine zz_con (lv := [(0, .ref (zz_a G 0)), (1, .int p1), (2, .int p2)]) (by decide +kernel) (Nat.le_of_ble_eq_true rfl) rfl ?_
  unfold f_X11_input
  refine zs_aload_n dX11_input_0 rfl 0 rfl ?_
  refine zs_getR fl_X11_20 dX11_input_1 (sh_0 hN) rfl ?_
  refine zs_iload_n dX11_input_4 rfl 1 rfl ?_
  refine zs_cV_iR (rest := []) (k_X6_hasInput hN _ _) dX11_input_5 lv_X11_141 ok_X6_hasInput (zz_rcv_o (sh_2 hN) rfl) (Nat.le_of_ble_eq_true rfl) rfl rfl (Nat.le_of_ble_eq_true rfl) (fun r1 => ?_)
  refine zs_if_ne (tgt := 14) dX11_input_8 (by decide) ?_ ?_
  · refine zs_iload_n dX11_input_14 rfl 2 rfl ?_
    refine zs_ite (fun h2 => ?_) (fun h2 => ?_)
    · refine zs_tswI (tgt := 64) h2 dX11_input_15 (by decide) (by decide) rfl (by decide) ?_
      refine zs_aload_n dX11_input_64 rfl 0 rfl ?_
      refine zs_getR fl_X11_20 dX11_input_65 (sh_0 hN) rfl ?_
      refine zs_getR fl_X11_145 dX11_input_68 (sh_2 hN) rfl ?_
      refine zs_iload_n dX11_input_71 rfl 1 rfl ?_
      refine zs_ialdG dX11_input_72 (sh_4 hN) ?_
      exact zs_iret dX11_input_73 rfl rfl rfl
    refine zs_ite (fun h3 => ?_) (fun h3 => ?_)
    · refine zs_tswI (tgt := 74) h3 dX11_input_15 (by decide) (by decide) rfl (by decide) ?_
      refine zs_aload_n dX11_input_74 rfl 0 rfl ?_
      refine zs_getR fl_X11_20 dX11_input_75 (sh_0 hN) rfl ?_
      refine zs_getR fl_X11_148 dX11_input_78 (sh_2 hN) rfl ?_
      refine zs_iload_n dX11_input_81 rfl 1 rfl ?_
      refine zs_ialdG dX11_input_82 (sh_5 hN) ?_
      exact zs_iret dX11_input_83 rfl rfl rfl
    refine zs_ite (fun h4 => ?_) (fun h4 => ?_)
    · refine zs_tswI (tgt := 84) h4 dX11_input_15 (by decide) (by decide) rfl (by decide) ?_
      refine zs_aload_n dX11_input_84 rfl 0 rfl ?_
      refine zs_getR fl_X11_20 dX11_input_85 (sh_0 hN) rfl ?_
      refine zs_getR fl_X11_151 dX11_input_88 (sh_2 hN) rfl ?_
      refine zs_iload_n dX11_input_91 rfl 1 rfl ?_
      refine zs_ialdG dX11_input_92 (sh_6 hN) ?_
      exact zs_iret dX11_input_93 rfl rfl rfl
    refine zs_ite (fun h5 => ?_) (fun h5 => ?_)
    · refine zs_tswI (tgt := 94) h5 dX11_input_15 (by decide) (by decide) rfl (by decide) ?_
      refine zs_aload_n dX11_input_94 rfl 0 rfl ?_
      refine zs_getR fl_X11_66 dX11_input_95 (sh_0 hN) rfl ?_
      refine zs_getR fl_X11_154 dX11_input_98 (sh_72 hN) rfl ?_
      refine zs_iload_n dX11_input_101 rfl 1 rfl ?_
      refine zs_ialdG dX11_input_102 (sh_73 hN) ?_
      exact zs_iret dX11_input_103 rfl rfl rfl
    refine zs_ite (fun h6 => ?_) (fun h6 => ?_)
    · refine zs_tswI (tgt := 104) h6 dX11_input_15 (by decide) (by decide) rfl (by decide) ?_
      refine zs_aload_n dX11_input_104 rfl 0 rfl ?_
      refine zs_getR fl_X11_66 dX11_input_105 (sh_0 hN) rfl ?_
      refine zs_getR fl_X11_157 dX11_input_108 (sh_72 hN) rfl ?_
      refine zs_iload_n dX11_input_111 rfl 1 rfl ?_
      refine zs_ialdG dX11_input_112 (sh_74 hN) ?_
      exact zs_iret dX11_input_113 rfl rfl rfl
    refine zs_ite (fun h7 => ?_) (fun h7 => ?_)
    · refine zs_tswI (tgt := 114) h7 dX11_input_15 (by decide) (by decide) rfl (by decide) ?_
      refine zs_aload_n dX11_input_114 rfl 0 rfl ?_
      refine zs_getR fl_X11_20 dX11_input_115 (sh_0 hN) rfl ?_
      refine zs_getR fl_X11_160 dX11_input_118 (sh_2 hN) rfl ?_
      refine zs_getR fl_X11_163 dX11_input_121 (sh_13 hN) rfl ?_
      refine zs_iload_n dX11_input_124 rfl 1 rfl ?_
      refine zs_ialdG dX11_input_125 (sh_14 hN) ?_
      exact zs_iret dX11_input_126 rfl rfl rfl
    refine zs_ite (fun h8 => ?_) (fun h8 => ?_)
    · refine zs_tswI (tgt := 127) h8 dX11_input_15 (by decide) (by decide) rfl (by decide) ?_
      refine zs_aload_n dX11_input_127 rfl 0 rfl ?_
      refine zs_cV_aW (rest := []) (k_X11_solvedNow hN  _) dX11_input_128 lv_X11_166 ok_X11_solvedNow (zz_rcv_o (sh_0 hN) rfl) (Nat.le_of_ble_eq_true rfl) rfl rfl (Nat.le_of_ble_eq_true rfl) (fun m9 => ?_)
      refine zs_getR fl_X11_170 dX11_input_131 (sh_83 hN) rfl ?_
      refine zs_iload_n dX11_input_134 rfl 1 rfl ?_
      refine zs_ialdG dX11_input_135 (sh_84 hN) ?_
      exact zs_iret dX11_input_136 rfl rfl rfl
    refine zs_ite (fun h10 => ?_) (fun h10 => ?_)
    · refine zs_tswI (tgt := 137) h10 dX11_input_15 (by decide) (by decide) rfl (by decide) ?_
      refine zs_aload_n dX11_input_137 rfl 0 rfl ?_
      refine zs_getR fl_X11_20 dX11_input_138 (sh_0 hN) rfl ?_
      refine zs_getR fl_X11_173 dX11_input_141 (sh_2 hN) rfl ?_
      refine zs_iload_n dX11_input_144 rfl 1 rfl ?_
      refine zs_ialdG dX11_input_145 (sh_7 hN) ?_
      exact zs_iret dX11_input_146 rfl rfl rfl
    refine zs_ite (fun h11 => ?_) (fun h11 => ?_)
    · refine zs_tswI (tgt := 147) h11 dX11_input_15 (by decide) (by decide) rfl (by decide) ?_
      refine zs_aload_n dX11_input_147 rfl 0 rfl ?_
      refine zs_getR fl_X11_66 dX11_input_148 (sh_0 hN) rfl ?_
      refine zs_getR fl_X11_176 dX11_input_151 (sh_72 hN) rfl ?_
      refine zs_iload_n dX11_input_154 rfl 1 rfl ?_
      refine zs_ialdG dX11_input_155 (sh_77 hN) ?_
      refine zs_iconst (v := (-1 : Int32)) dX11_input_156 ci_m1 ?_
      refine zs_icmp_ne (tgt := 164) dX11_input_157 (by decide) ?_ ?_
      · refine zs_iconst (v := (0 : Int32)) dX11_input_164 ci_0 ?_
        exact zs_iret dX11_input_165 rfl rfl rfl
      · refine zs_iconst (v := (1 : Int32)) dX11_input_160 ci_1 ?_
        refine zs_goto (tgt := 165) dX11_input_161 (by decide) ?_
        exact zs_iret dX11_input_165 rfl rfl rfl
    refine zs_tswO (tgt := 166) dX11_input_15 (by have eh2 := lv_neT h2 (a := 0) rfl; have eh3 := lv_neT h3 (a := 1) rfl; have eh4 := lv_neT h4 (a := 2) rfl; have eh5 := lv_neT h5 (a := 3) rfl; have eh6 := lv_neT h6 (a := 4) rfl; have eh7 := lv_neT h7 (a := 5) rfl; have eh8 := lv_neT h8 (a := 6) rfl; have eh10 := lv_neT h10 (a := 7) rfl; have eh11 := lv_neT h11 (a := 8) rfl; omega) (by decide) ?_
    refine zs_bipush (v := (-2 : Int32)) dX11_input_166 cb_m2 ?_
    exact zs_iret dX11_input_168 rfl rfl rfl
  · refine zs_bipush (v := (-2 : Int32)) dX11_input_11 cb_m2 ?_
    exact zs_iret dX11_input_13 rfl rfl rfl
/-! X11_flow: PillarDesk.flow(II)J -/
theorem dX11_flow_0 : decode cX11_flow 0 = .ok (.aload_n 0, 1) := by decide +kernel
theorem dX11_flow_1 : decode cX11_flow 1 = .ok (.getfield 20, 3) := by decide +kernel
theorem dX11_flow_4 : decode cX11_flow 4 = .ok (.iload_n 1, 1) := by decide +kernel
theorem dX11_flow_5 : decode cX11_flow 5 = .ok (.invokevirtual 179, 3) := by decide +kernel
theorem dX11_flow_8 : decode cX11_flow 8 = .ok (.ifCond .eq 12, 3) := by decide +kernel
theorem dX11_flow_11 : decode cX11_flow 11 = .ok (.iload_n 2, 1) := by decide +kernel
theorem dX11_flow_12 : decode cX11_flow 12 = .ok (.ifCond .lt 8, 3) := by decide +kernel
theorem dX11_flow_15 : decode cX11_flow 15 = .ok (.iload_n 2, 1) := by decide +kernel
theorem dX11_flow_16 : decode cX11_flow 16 = .ok (.iconst 1, 1) := by decide +kernel
theorem dX11_flow_17 : decode cX11_flow 17 = .ok (.if_icmp .le 7, 3) := by decide +kernel
theorem dX11_flow_20 : decode cX11_flow 20 = .ok (.ldc2_w 182, 3) := by decide +kernel
theorem dX11_flow_23 : decode cX11_flow 23 = .ok (.lreturn, 1) := by decide +kernel
theorem dX11_flow_24 : decode cX11_flow 24 = .ok (.iload_n 2, 1) := by decide +kernel
theorem dX11_flow_25 : decode cX11_flow 25 = .ok (.ifCond .ne 16, 3) := by decide +kernel
theorem dX11_flow_28 : decode cX11_flow 28 = .ok (.aload_n 0, 1) := by decide +kernel
theorem dX11_flow_29 : decode cX11_flow 29 = .ok (.getfield 20, 3) := by decide +kernel
theorem dX11_flow_32 : decode cX11_flow 32 = .ok (.getfield 184, 3) := by decide +kernel
theorem dX11_flow_35 : decode cX11_flow 35 = .ok (.iload_n 1, 1) := by decide +kernel
theorem dX11_flow_36 : decode cX11_flow 36 = .ok (.iaload, 1) := by decide +kernel
theorem dX11_flow_37 : decode cX11_flow 37 = .ok (.i2l, 1) := by decide +kernel
theorem dX11_flow_38 : decode cX11_flow 38 = .ok (.goto 16, 3) := by decide +kernel
theorem dX11_flow_41 : decode cX11_flow 41 = .ok (.aload_n 0, 1) := by decide +kernel
theorem dX11_flow_42 : decode cX11_flow 42 = .ok (.getfield 20, 3) := by decide +kernel
theorem dX11_flow_45 : decode cX11_flow 45 = .ok (.getfield 160, 3) := by decide +kernel
theorem dX11_flow_48 : decode cX11_flow 48 = .ok (.getfield 187, 3) := by decide +kernel
theorem dX11_flow_51 : decode cX11_flow 51 = .ok (.iload_n 1, 1) := by decide +kernel
theorem dX11_flow_52 : decode cX11_flow 52 = .ok (.iaload, 1) := by decide +kernel
theorem dX11_flow_53 : decode cX11_flow 53 = .ok (.i2l, 1) := by decide +kernel
theorem dX11_flow_54 : decode cX11_flow 54 = .ok (.lreturn, 1) := by decide +kernel
def f_X11_flow (m : zz_Mem) (p1 : Int32) (p2 : Int32) : Option Int64 :=
  zz_bndR (f_X6_hasFlow m p1) fun r1 =>
  if r1 = 0 then (
  some (-9000000000000000002 : Int64))
  else (
  if p2 < 0 then (
  some (-9000000000000000002 : Int64))
  else (
  if p2 ≤ (1 : Int32) then (
  if p2 = 0 then (
  zz_ix p1 10 <|
  some ((m.1 8 p1.toNatClampNeg).toInt64))
  else (
  zz_ix p1 10 <|
  some ((m.1 15 p1.toNatClampNeg).toInt64)))
  else (
  some (-9000000000000000002 : Int64))))
theorem k_X11_flow {l : Launch} {G : zz_G} (hN : 107 ≤ zz_N G) : ∀ (p1 : Int32) (p2 : Int32) (m : zz_Mem), zz_Con zz_sh l G mX11_flow 1 [.ref (zz_a G 0), .int p1, .int p2] zz_vJr (zz_mC m) (f_X11_flow m p1 p2) m := by
  intro p1 p2 m
  refine zz_con (lv := [(0, .ref (zz_a G 0)), (1, .int p1), (2, .int p2)]) (by decide +kernel) (Nat.le_of_ble_eq_true rfl) rfl ?_
  unfold f_X11_flow
  refine zs_aload_n dX11_flow_0 rfl 0 rfl ?_
  refine zs_getR fl_X11_20 dX11_flow_1 (sh_0 hN) rfl ?_
  refine zs_iload_n dX11_flow_4 rfl 1 rfl ?_
  refine zs_cV_iR (rest := []) (k_X6_hasFlow hN _ _) dX11_flow_5 lv_X11_179 ok_X6_hasFlow (zz_rcv_o (sh_2 hN) rfl) (Nat.le_of_ble_eq_true rfl) rfl rfl (Nat.le_of_ble_eq_true rfl) (fun r1 => ?_)
  refine zs_if_eq (tgt := 20) dX11_flow_8 (by decide) ?_ ?_
  · refine zs_ldc2 (v := (-9000000000000000002 : Int64)) dX11_flow_20 kc_X11_182 ?_
    exact zs_lret dX11_flow_23 rfl rfl rfl
  · refine zs_iload_n dX11_flow_11 rfl 2 rfl ?_
    refine zs_if_lt (tgt := 20) dX11_flow_12 (by decide) ?_ ?_
    · refine zs_ldc2 (v := (-9000000000000000002 : Int64)) dX11_flow_20 kc_X11_182 ?_
      exact zs_lret dX11_flow_23 rfl rfl rfl
    · refine zs_iload_n dX11_flow_15 rfl 2 rfl ?_
      refine zs_iconst (v := (1 : Int32)) dX11_flow_16 ci_1 ?_
      refine zs_icmp_le (tgt := 24) dX11_flow_17 (by decide) ?_ ?_
      · refine zs_iload_n dX11_flow_24 rfl 2 rfl ?_
        refine zs_if_ne (tgt := 41) dX11_flow_25 (by decide) ?_ ?_
        · refine zs_aload_n dX11_flow_41 rfl 0 rfl ?_
          refine zs_getR fl_X11_20 dX11_flow_42 (sh_0 hN) rfl ?_
          refine zs_getR fl_X11_160 dX11_flow_45 (sh_2 hN) rfl ?_
          refine zs_getR fl_X11_187 dX11_flow_48 (sh_13 hN) rfl ?_
          refine zs_iload_n dX11_flow_51 rfl 1 rfl ?_
          refine zs_ialdG dX11_flow_52 (sh_15 hN) ?_
          refine zs_i2l dX11_flow_53 ?_
          exact zs_lret dX11_flow_54 rfl rfl rfl
        · refine zs_aload_n dX11_flow_28 rfl 0 rfl ?_
          refine zs_getR fl_X11_20 dX11_flow_29 (sh_0 hN) rfl ?_
          refine zs_getR fl_X11_184 dX11_flow_32 (sh_2 hN) rfl ?_
          refine zs_iload_n dX11_flow_35 rfl 1 rfl ?_
          refine zs_ialdG dX11_flow_36 (sh_8 hN) ?_
          refine zs_i2l dX11_flow_37 ?_
          refine zs_goto (tgt := 54) dX11_flow_38 (by decide) ?_
          exact zs_lret dX11_flow_54 rfl rfl rfl
      · refine zs_ldc2 (v := (-9000000000000000002 : Int64)) dX11_flow_20 kc_X11_182 ?_
        exact zs_lret dX11_flow_23 rfl rfl rfl
/-! X11_open: PillarDesk.open(I)I -/
theorem dX11_open_0 : decode cX11_open 0 = .ok (.iload_n 1, 1) := by decide +kernel
theorem dX11_open_1 : decode cX11_open 1 = .ok (.ifCond .lt 10, 3) := by decide +kernel
theorem dX11_open_4 : decode cX11_open 4 = .ok (.iload_n 1, 1) := by decide +kernel
theorem dX11_open_5 : decode cX11_open 5 = .ok (.sipush 9999, 3) := by decide +kernel
theorem dX11_open_8 : decode cX11_open 8 = .ok (.if_icmp .le 6, 3) := by decide +kernel
theorem dX11_open_11 : decode cX11_open 11 = .ok (.bipush (-3), 2) := by decide +kernel
theorem dX11_open_13 : decode cX11_open 13 = .ok (.ireturn, 1) := by decide +kernel
theorem dX11_open_14 : decode cX11_open 14 = .ok (.aload_n 0, 1) := by decide +kernel
theorem dX11_open_15 : decode cX11_open 15 = .ok (.getfield 66, 3) := by decide +kernel
theorem dX11_open_18 : decode cX11_open 18 = .ok (.getfield 190, 3) := by decide +kernel
theorem dX11_open_21 : decode cX11_open 21 = .ok (.iload_n 1, 1) := by decide +kernel
theorem dX11_open_22 : decode cX11_open 22 = .ok (.invokevirtual 194, 3) := by decide +kernel
theorem dX11_open_25 : decode cX11_open 25 = .ok (.ifCond .eq 7, 3) := by decide +kernel
theorem dX11_open_28 : decode cX11_open 28 = .ok (.iconst 1, 1) := by decide +kernel
theorem dX11_open_29 : decode cX11_open 29 = .ok (.goto 4, 3) := by decide +kernel
theorem dX11_open_32 : decode cX11_open 32 = .ok (.iconst 0, 1) := by decide +kernel
theorem dX11_open_33 : decode cX11_open 33 = .ok (.ireturn, 1) := by decide +kernel
def f_X11_open  (p1 : Int32) (m : zz_Mem) : Option (Int32 × zz_Mem) :=
  if p1 < 0 then (
  some ((-3 : Int32), m))
  else (
  if p1 ≤ (9999 : Int32) then (
  zz_bnd (f_X0_isOpen p1 m) fun r1 m2 =>
  if r1 = 0 then (
  some ((0 : Int32), m2))
  else (
  some ((1 : Int32), m2)))
  else (
  some ((-3 : Int32), m)))
theorem k_X11_open {l : Launch} {G : zz_G} (hN : 107 ≤ zz_N G) : ∀ (p1 : Int32) (m : zz_Mem), zz_Con zz_sh l G mX11_open 4 [.ref (zz_a G 0), .int p1] zz_vI zz_m2 (f_X11_open p1 m) m := by
  intro p1 m
  refine zz_con (lv := [(0, .ref (zz_a G 0)), (1, .int p1)]) (by decide +kernel) (Nat.le_of_ble_eq_true rfl) rfl ?_
  unfold f_X11_open
  refine zs_iload_n dX11_open_0 rfl 1 rfl ?_
  refine zs_if_lt (tgt := 11) dX11_open_1 (by decide) ?_ ?_
  · refine zs_bipush (v := (-3 : Int32)) dX11_open_11 cb_m3 ?_
    exact zs_iret dX11_open_13 rfl rfl rfl
  · refine zs_iload_n dX11_open_4 rfl 1 rfl ?_
    refine zs_sipush (v := (9999 : Int32)) dX11_open_5 cs_9999 ?_
    refine zs_icmp_le (tgt := 14) dX11_open_8 (by decide) ?_ ?_
    · refine zs_aload_n dX11_open_14 rfl 0 rfl ?_
      refine zs_getR fl_X11_66 dX11_open_15 (sh_0 hN) rfl ?_
      refine zs_getR fl_X11_190 dX11_open_18 (sh_72 hN) rfl ?_
      refine zs_iload_n dX11_open_21 rfl 1 rfl ?_
      refine zs_cV_iW (rest := []) (k_X0_isOpen hN _ _) dX11_open_22 lv_X11_194 ok_X0_isOpen (zz_rcv_o (sh_81 hN) rfl) (Nat.le_of_ble_eq_true rfl) rfl rfl (Nat.le_of_ble_eq_true rfl) (fun r1 m2 => ?_)
      refine zs_if_eq (tgt := 32) dX11_open_25 (by decide) ?_ ?_
      · refine zs_iconst (v := (0 : Int32)) dX11_open_32 ci_0 ?_
        exact zs_iret dX11_open_33 rfl rfl rfl
      · refine zs_iconst (v := (1 : Int32)) dX11_open_28 ci_1 ?_
        refine zs_goto (tgt := 33) dX11_open_29 (by decide) ?_
        exact zs_iret dX11_open_33 rfl rfl rfl
    · refine zs_bipush (v := (-3 : Int32)) dX11_open_11 cb_m3 ?_
      exact zs_iret dX11_open_13 rfl rfl rfl
/-! X11_off: PillarDesk.off(I)I -/
theorem dX11_off_0 : decode cX11_off 0 = .ok (.iload_n 1, 1) := by decide +kernel
theorem dX11_off_1 : decode cX11_off 1 = .ok (.ifCond .lt 10, 3) := by decide +kernel
theorem dX11_off_4 : decode cX11_off 4 = .ok (.iload_n 1, 1) := by decide +kernel
theorem dX11_off_5 : decode cX11_off 5 = .ok (.sipush 9999, 3) := by decide +kernel
theorem dX11_off_8 : decode cX11_off 8 = .ok (.if_icmp .le 8, 3) := by decide +kernel
theorem dX11_off_11 : decode cX11_off 11 = .ok (.bipush (-3), 2) := by decide +kernel
theorem dX11_off_13 : decode cX11_off 13 = .ok (.goto 14, 3) := by decide +kernel
theorem dX11_off_16 : decode cX11_off 16 = .ok (.aload_n 0, 1) := by decide +kernel
theorem dX11_off_17 : decode cX11_off 17 = .ok (.getfield 66, 3) := by decide +kernel
theorem dX11_off_20 : decode cX11_off 20 = .ok (.getfield 190, 3) := by decide +kernel
theorem dX11_off_23 : decode cX11_off 23 = .ok (.iload_n 1, 1) := by decide +kernel
theorem dX11_off_24 : decode cX11_off 24 = .ok (.invokevirtual 199, 3) := by decide +kernel
theorem dX11_off_27 : decode cX11_off 27 = .ok (.ireturn, 1) := by decide +kernel
def f_X11_off  (p1 : Int32) (m : zz_Mem) : Option (Int32 × zz_Mem) :=
  if p1 < 0 then (
  some ((-3 : Int32), m))
  else (
  if p1 ≤ (9999 : Int32) then (
  zz_bnd (f_X0_putOff p1 m) fun r1 m2 =>
  some (r1, m2))
  else (
  some ((-3 : Int32), m)))
theorem k_X11_off {l : Launch} {G : zz_G} (hN : 107 ≤ zz_N G) : ∀ (p1 : Int32) (m : zz_Mem), zz_Con zz_sh l G mX11_off 5 [.ref (zz_a G 0), .int p1] zz_vI zz_m2 (f_X11_off p1 m) m := by
  intro p1 m
  refine zz_con (lv := [(0, .ref (zz_a G 0)), (1, .int p1)]) (by decide +kernel) (Nat.le_of_ble_eq_true rfl) rfl ?_
  unfold f_X11_off
  refine zs_iload_n dX11_off_0 rfl 1 rfl ?_
  refine zs_if_lt (tgt := 11) dX11_off_1 (by decide) ?_ ?_
  · refine zs_bipush (v := (-3 : Int32)) dX11_off_11 cb_m3 ?_
    refine zs_goto (tgt := 27) dX11_off_13 (by decide) ?_
    exact zs_iret dX11_off_27 rfl rfl rfl
  · refine zs_iload_n dX11_off_4 rfl 1 rfl ?_
    refine zs_sipush (v := (9999 : Int32)) dX11_off_5 cs_9999 ?_
    refine zs_icmp_le (tgt := 16) dX11_off_8 (by decide) ?_ ?_
    · refine zs_aload_n dX11_off_16 rfl 0 rfl ?_
      refine zs_getR fl_X11_66 dX11_off_17 (sh_0 hN) rfl ?_
      refine zs_getR fl_X11_190 dX11_off_20 (sh_72 hN) rfl ?_
      refine zs_iload_n dX11_off_23 rfl 1 rfl ?_
      refine zs_cV_iW (rest := []) (k_X0_putOff hN _ _) dX11_off_24 lv_X11_199 ok_X0_putOff (zz_rcv_o (sh_81 hN) rfl) (Nat.le_of_ble_eq_true rfl) rfl rfl (Nat.le_of_ble_eq_true rfl) (fun r1 m2 => ?_)
      exact zs_iret dX11_off_27 rfl rfl rfl
    · refine zs_bipush (v := (-3 : Int32)) dX11_off_11 cb_m3 ?_
      refine zs_goto (tgt := 27) dX11_off_13 (by decide) ?_
      exact zs_iret dX11_off_27 rfl rfl rfl
/-! X11_opens: PillarDesk.opens(II)I -/
theorem dX11_opens_0 : decode cX11_opens 0 = .ok (.iload_n 1, 1) := by decide +kernel
theorem dX11_opens_1 : decode cX11_opens 1 = .ok (.ifCond .lt 22, 3) := by decide +kernel
theorem dX11_opens_4 : decode cX11_opens 4 = .ok (.iload_n 1, 1) := by decide +kernel
theorem dX11_opens_5 : decode cX11_opens 5 = .ok (.sipush 999, 3) := by decide +kernel
theorem dX11_opens_8 : decode cX11_opens 8 = .ok (.if_icmp .gt 15, 3) := by decide +kernel
theorem dX11_opens_11 : decode cX11_opens 11 = .ok (.iload_n 2, 1) := by decide +kernel
theorem dX11_opens_12 : decode cX11_opens 12 = .ok (.iload_n 1, 1) := by decide +kernel
theorem dX11_opens_13 : decode cX11_opens 13 = .ok (.if_icmp .lt 10, 3) := by decide +kernel
theorem dX11_opens_16 : decode cX11_opens 16 = .ok (.iload_n 2, 1) := by decide +kernel
theorem dX11_opens_17 : decode cX11_opens 17 = .ok (.sipush 999, 3) := by decide +kernel
theorem dX11_opens_20 : decode cX11_opens 20 = .ok (.if_icmp .le 6, 3) := by decide +kernel
theorem dX11_opens_23 : decode cX11_opens 23 = .ok (.bipush (-3), 2) := by decide +kernel
theorem dX11_opens_25 : decode cX11_opens 25 = .ok (.ireturn, 1) := by decide +kernel
theorem dX11_opens_26 : decode cX11_opens 26 = .ok (.iconst 0, 1) := by decide +kernel
theorem dX11_opens_27 : decode cX11_opens 27 = .ok (.istore_n 3, 1) := by decide +kernel
theorem dX11_opens_28 : decode cX11_opens 28 = .ok (.iload_n 1, 1) := by decide +kernel
theorem dX11_opens_29 : decode cX11_opens 29 = .ok (.istore 4, 2) := by decide +kernel
theorem dX11_opens_31 : decode cX11_opens 31 = .ok (.iload 4, 2) := by decide +kernel
theorem dX11_opens_33 : decode cX11_opens 33 = .ok (.iload_n 2, 1) := by decide +kernel
theorem dX11_opens_34 : decode cX11_opens 34 = .ok (.if_icmp .ge 27, 3) := by decide +kernel
theorem dX11_opens_37 : decode cX11_opens 37 = .ok (.aload_n 0, 1) := by decide +kernel
theorem dX11_opens_38 : decode cX11_opens 38 = .ok (.getfield 66, 3) := by decide +kernel
theorem dX11_opens_41 : decode cX11_opens 41 = .ok (.getfield 190, 3) := by decide +kernel
theorem dX11_opens_44 : decode cX11_opens 44 = .ok (.iload 4, 2) := by decide +kernel
theorem dX11_opens_46 : decode cX11_opens 46 = .ok (.invokevirtual 194, 3) := by decide +kernel
theorem dX11_opens_49 : decode cX11_opens 49 = .ok (.ifCond .eq 6, 3) := by decide +kernel
theorem dX11_opens_52 : decode cX11_opens 52 = .ok (.iinc 3 1, 3) := by decide +kernel
theorem dX11_opens_55 : decode cX11_opens 55 = .ok (.iinc 4 1, 3) := by decide +kernel
theorem dX11_opens_58 : decode cX11_opens 58 = .ok (.goto (-27), 3) := by decide +kernel
theorem dX11_opens_61 : decode cX11_opens 61 = .ok (.iload_n 3, 1) := by decide +kernel
theorem dX11_opens_62 : decode cX11_opens 62 = .ok (.ireturn, 1) := by decide +kernel
def f_X11_opens_31   : Nat → Int32 → Int32 → Int32 → zz_Mem → Option (Int32 × zz_Mem)
  | 0, _, _, _, _ => none
  | n + 1, v2, v3, v4, m =>
  if v2 ≤ v4 then (
  some (v3, m))
  else (
  zz_bnd (f_X0_isOpen v4 m) fun r1 m2 =>
  if r1 = 0 then (
  zz_letI (v4 + (1 : Int32)) fun x3 =>
  f_X11_opens_31 n v2 v3 x3 m2)
  else (
  zz_letI (v3 + (1 : Int32)) fun x4 =>
  zz_letI (v4 + (1 : Int32)) fun x5 =>
  f_X11_opens_31 n v2 x4 x5 m2))
theorem t_X11_opens_31 {l : Launch} {G : zz_G} (hN : 107 ≤ zz_N G)  : ∀ (n : Nat) (v2 : Int32) (v3 : Int32) (v4 : Int32) (m : zz_Mem), zz_Sim zz_sh l G mX11_opens 4 zz_vI zz_m2 (f_X11_opens_31 n v2 v3 v4 m) 31 [(0, .ref (zz_a G 0)), (2, .int v2), (3, .int v3), (4, .int v4)] [] m := by
  intro n
  induction n with
  | zero => intro _ _ _ _; exact zs_none
  | succ n ih =>
    intro v2 v3 v4 m
    rw [f_X11_opens_31]
    refine zs_iload dX11_opens_31 3 rfl ?_
    refine zs_iload_n dX11_opens_33 rfl 1 rfl ?_
    refine zs_icmp_ge (tgt := 61) dX11_opens_34 (by decide) ?_ ?_
    · refine zs_iload_n dX11_opens_61 rfl 2 rfl ?_
      exact zs_iret dX11_opens_62 rfl rfl rfl
    · refine zs_aload_n dX11_opens_37 rfl 0 rfl ?_
      refine zs_getR fl_X11_66 dX11_opens_38 (sh_0 hN) rfl ?_
      refine zs_getR fl_X11_190 dX11_opens_41 (sh_72 hN) rfl ?_
      refine zs_iload dX11_opens_44 3 rfl ?_
      refine zs_cV_iW (rest := []) (k_X0_isOpen hN _ _) dX11_opens_46 lv_X11_194 ok_X0_isOpen (zz_rcv_o (sh_81 hN) rfl) (Nat.le_of_ble_eq_true rfl) rfl rfl (Nat.le_of_ble_eq_true rfl) (fun r1 m2 => ?_)
      refine zs_if_eq (tgt := 55) dX11_opens_49 (by decide) ?_ ?_
      · refine zs_iinc (fun y => [(4, .int y), (0, .ref (zz_a G 0)), (2, .int v2), (3, .int v3)]) dX11_opens_55 3 rfl ci_1 (Nat.le_of_ble_eq_true rfl) (fun _ => rfl) (fun x3 => ?_)
        refine zs_goto (tgt := 31) dX11_opens_58 (by decide) ?_
        refine zs_sub [1, 2, 3, 0] rfl ?_
        exact ih _ _ _ _
      · refine zs_iinc (fun y => [(3, .int y), (0, .ref (zz_a G 0)), (2, .int v2), (4, .int v4)]) dX11_opens_52 2 rfl ci_1 (Nat.le_of_ble_eq_true rfl) (fun _ => rfl) (fun x4 => ?_)
        refine zs_iinc (fun y => [(4, .int y), (3, .int x4), (0, .ref (zz_a G 0)), (2, .int v2)]) dX11_opens_55 3 rfl ci_1 (Nat.le_of_ble_eq_true rfl) (fun _ => rfl) (fun x5 => ?_)
        refine zs_goto (tgt := 31) dX11_opens_58 (by decide) ?_
        refine zs_sub [2, 3, 1, 0] rfl ?_
        exact ih _ _ _ _
def f_X11_opens  (p1 : Int32) (p2 : Int32) (m : zz_Mem) : Option (Int32 × zz_Mem) :=
  if p1 < 0 then (
  some ((-3 : Int32), m))
  else (
  if (999 : Int32) < p1 then (
  some ((-3 : Int32), m))
  else (
  if p2 < p1 then (
  some ((-3 : Int32), m))
  else (
  if p2 ≤ (999 : Int32) then (
  f_X11_opens_31 zz_fuel p2 (0 : Int32) p1 m)
  else (
  some ((-3 : Int32), m)))))
theorem k_X11_opens {l : Launch} {G : zz_G} (hN : 107 ≤ zz_N G) : ∀ (p1 : Int32) (p2 : Int32) (m : zz_Mem), zz_Con zz_sh l G mX11_opens 4 [.ref (zz_a G 0), .int p1, .int p2] zz_vI zz_m2 (f_X11_opens p1 p2 m) m := by
  intro p1 p2 m
  refine zz_con (lv := [(0, .ref (zz_a G 0)), (1, .int p1), (2, .int p2)]) (by decide +kernel) (Nat.le_of_ble_eq_true rfl) rfl ?_
  unfold f_X11_opens
  refine zs_iload_n dX11_opens_0 rfl 1 rfl ?_
  refine zs_if_lt (tgt := 23) dX11_opens_1 (by decide) ?_ ?_
  · refine zs_bipush (v := (-3 : Int32)) dX11_opens_23 cb_m3 ?_
    exact zs_iret dX11_opens_25 rfl rfl rfl
  · refine zs_iload_n dX11_opens_4 rfl 1 rfl ?_
    refine zs_sipush (v := (999 : Int32)) dX11_opens_5 cs_999 ?_
    refine zs_icmp_gt (tgt := 23) dX11_opens_8 (by decide) ?_ ?_
    · refine zs_bipush (v := (-3 : Int32)) dX11_opens_23 cb_m3 ?_
      exact zs_iret dX11_opens_25 rfl rfl rfl
    · refine zs_iload_n dX11_opens_11 rfl 2 rfl ?_
      refine zs_iload_n dX11_opens_12 rfl 1 rfl ?_
      refine zs_icmp_lt (tgt := 23) dX11_opens_13 (by decide) ?_ ?_
      · refine zs_bipush (v := (-3 : Int32)) dX11_opens_23 cb_m3 ?_
        exact zs_iret dX11_opens_25 rfl rfl rfl
      · refine zs_iload_n dX11_opens_16 rfl 2 rfl ?_
        refine zs_sipush (v := (999 : Int32)) dX11_opens_17 cs_999 ?_
        refine zs_icmp_le (tgt := 26) dX11_opens_20 (by decide) ?_ ?_
        · refine zs_iconst (v := (0 : Int32)) dX11_opens_26 ci_0 ?_
          refine zs_istore_n [(3, .int (0 : Int32)), (0, .ref (zz_a G 0)), (1, .int p1), (2, .int p2)] dX11_opens_27 rfl (Nat.le_of_ble_eq_true rfl) rfl ?_
          refine zs_iload_n dX11_opens_28 rfl 2 rfl ?_
          refine zs_istore [(4, .int p1), (3, .int (0 : Int32)), (0, .ref (zz_a G 0)), (1, .int p1), (2, .int p2)] dX11_opens_29 (Nat.le_of_ble_eq_true rfl) rfl ?_
          refine zs_sub [2, 4, 1, 0] rfl ?_
          exact t_X11_opens_31 hN zz_fuel _ _ _ _
        · refine zs_bipush (v := (-3 : Int32)) dX11_opens_23 cb_m3 ?_
          exact zs_iret dX11_opens_25 rfl rfl rfl
/-! X11_business: PillarDesk.business(II)I -/
theorem dX11_business_0 : decode cX11_business 0 = .ok (.iload_n 1, 1) := by decide +kernel
theorem dX11_business_1 : decode cX11_business 1 = .ok (.ifCond .lt 21, 3) := by decide +kernel
theorem dX11_business_4 : decode cX11_business 4 = .ok (.iload_n 1, 1) := by decide +kernel
theorem dX11_business_5 : decode cX11_business 5 = .ok (.sipush 999, 3) := by decide +kernel
theorem dX11_business_8 : decode cX11_business 8 = .ok (.if_icmp .gt 14, 3) := by decide +kernel
theorem dX11_business_11 : decode cX11_business 11 = .ok (.iload_n 2, 1) := by decide +kernel
theorem dX11_business_12 : decode cX11_business 12 = .ok (.iconst 1, 1) := by decide +kernel
theorem dX11_business_13 : decode cX11_business 13 = .ok (.if_icmp .lt 9, 3) := by decide +kernel
theorem dX11_business_16 : decode cX11_business 16 = .ok (.iload_n 2, 1) := by decide +kernel
theorem dX11_business_17 : decode cX11_business 17 = .ok (.bipush 99, 2) := by decide +kernel
theorem dX11_business_19 : decode cX11_business 19 = .ok (.if_icmp .le 6, 3) := by decide +kernel
theorem dX11_business_22 : decode cX11_business 22 = .ok (.bipush (-3), 2) := by decide +kernel
theorem dX11_business_24 : decode cX11_business 24 = .ok (.ireturn, 1) := by decide +kernel
theorem dX11_business_25 : decode cX11_business 25 = .ok (.iconst 0, 1) := by decide +kernel
theorem dX11_business_26 : decode cX11_business 26 = .ok (.istore_n 3, 1) := by decide +kernel
theorem dX11_business_27 : decode cX11_business 27 = .ok (.iconst 1, 1) := by decide +kernel
theorem dX11_business_28 : decode cX11_business 28 = .ok (.istore 4, 2) := by decide +kernel
theorem dX11_business_30 : decode cX11_business 30 = .ok (.iload 4, 2) := by decide +kernel
theorem dX11_business_32 : decode cX11_business 32 = .ok (.sipush 999, 3) := by decide +kernel
theorem dX11_business_35 : decode cX11_business 35 = .ok (.if_icmp .gt 39, 3) := by decide +kernel
theorem dX11_business_38 : decode cX11_business 38 = .ok (.aload_n 0, 1) := by decide +kernel
theorem dX11_business_39 : decode cX11_business 39 = .ok (.getfield 66, 3) := by decide +kernel
theorem dX11_business_42 : decode cX11_business 42 = .ok (.getfield 190, 3) := by decide +kernel
theorem dX11_business_45 : decode cX11_business 45 = .ok (.iload_n 1, 1) := by decide +kernel
theorem dX11_business_46 : decode cX11_business 46 = .ok (.iload 4, 2) := by decide +kernel
theorem dX11_business_48 : decode cX11_business 48 = .ok (.iadd, 1) := by decide +kernel
theorem dX11_business_49 : decode cX11_business 49 = .ok (.invokevirtual 194, 3) := by decide +kernel
theorem dX11_business_52 : decode cX11_business 52 = .ok (.ifCond .eq 6, 3) := by decide +kernel
theorem dX11_business_55 : decode cX11_business 55 = .ok (.iinc 3 1, 3) := by decide +kernel
theorem dX11_business_58 : decode cX11_business 58 = .ok (.iload_n 3, 1) := by decide +kernel
theorem dX11_business_59 : decode cX11_business 59 = .ok (.iload_n 2, 1) := by decide +kernel
theorem dX11_business_60 : decode cX11_business 60 = .ok (.if_icmp .ne 8, 3) := by decide +kernel
theorem dX11_business_63 : decode cX11_business 63 = .ok (.iload_n 1, 1) := by decide +kernel
theorem dX11_business_64 : decode cX11_business 64 = .ok (.iload 4, 2) := by decide +kernel
theorem dX11_business_66 : decode cX11_business 66 = .ok (.iadd, 1) := by decide +kernel
theorem dX11_business_67 : decode cX11_business 67 = .ok (.ireturn, 1) := by decide +kernel
theorem dX11_business_68 : decode cX11_business 68 = .ok (.iinc 4 1, 3) := by decide +kernel
theorem dX11_business_71 : decode cX11_business 71 = .ok (.goto (-41), 3) := by decide +kernel
theorem dX11_business_74 : decode cX11_business 74 = .ok (.iconst (-1), 1) := by decide +kernel
theorem dX11_business_75 : decode cX11_business 75 = .ok (.ireturn, 1) := by decide +kernel
def f_X11_business_58  (k30 : Int32 → Int32 → Int32 → Int32 → zz_Mem → Option (Int32 × zz_Mem)) (v1 : Int32) (v2 : Int32) (v3 : Int32) (v4 : Int32) (m : zz_Mem) : Option (Int32 × zz_Mem) :=
  if v3 = v2 then (
  some (v1 + v4, m))
  else (
  zz_letI (v4 + (1 : Int32)) fun x1 =>
  k30 v1 v2 v3 x1 m)
theorem t_X11_business_58 {l : Launch} {G : zz_G} (hN : 107 ≤ zz_N G) {k30 : Int32 → Int32 → Int32 → Int32 → zz_Mem → Option (Int32 × zz_Mem)} (hk30 : ∀ (v1 : Int32) (v2 : Int32) (v3 : Int32) (v4 : Int32) (m : zz_Mem), zz_Sim zz_sh l G mX11_business 4 zz_vI zz_m2 (k30 v1 v2 v3 v4 m) 30 [(0, .ref (zz_a G 0)), (1, .int v1), (2, .int v2), (3, .int v3), (4, .int v4)] [] m) : ∀ (v1 : Int32) (v2 : Int32) (v3 : Int32) (v4 : Int32) (m : zz_Mem), zz_Sim zz_sh l G mX11_business 4 zz_vI zz_m2 (f_X11_business_58 k30 v1 v2 v3 v4 m) 58 [(0, .ref (zz_a G 0)), (1, .int v1), (2, .int v2), (3, .int v3), (4, .int v4)] [] m := by
  intro v1 v2 v3 v4 m
  unfold f_X11_business_58
  refine zs_iload_n dX11_business_58 rfl 3 rfl ?_
  refine zs_iload_n dX11_business_59 rfl 2 rfl ?_
  refine zs_icmp_ne (tgt := 68) dX11_business_60 (by decide) ?_ ?_
  · refine zs_iinc (fun y => [(4, .int y), (0, .ref (zz_a G 0)), (1, .int v1), (2, .int v2), (3, .int v3)]) dX11_business_68 4 rfl ci_1 (Nat.le_of_ble_eq_true rfl) (fun _ => rfl) (fun x1 => ?_)
    refine zs_goto (tgt := 30) dX11_business_71 (by decide) ?_
    refine zs_sub [1, 2, 3, 4, 0] rfl ?_
    exact hk30 _ _ _ _ _
  · refine zs_iload_n dX11_business_63 rfl 1 rfl ?_
    refine zs_iload dX11_business_64 4 rfl ?_
    refine zs_iadd dX11_business_66 ?_
    exact zs_iret dX11_business_67 rfl rfl rfl
def f_X11_business_30   : Nat → Int32 → Int32 → Int32 → Int32 → zz_Mem → Option (Int32 × zz_Mem)
  | 0, _, _, _, _, _ => none
  | n + 1, v1, v2, v3, v4, m =>
  if (999 : Int32) < v4 then (
  some ((-1 : Int32), m))
  else (
  zz_bnd (f_X0_isOpen (v1 + v4) m) fun r1 m2 =>
  if r1 = 0 then (
  f_X11_business_58 (f_X11_business_30 n) v1 v2 v3 v4 m2)
  else (
  zz_letI (v3 + (1 : Int32)) fun x3 =>
  f_X11_business_58 (f_X11_business_30 n) v1 v2 x3 v4 m2))
theorem t_X11_business_30 {l : Launch} {G : zz_G} (hN : 107 ≤ zz_N G)  : ∀ (n : Nat) (v1 : Int32) (v2 : Int32) (v3 : Int32) (v4 : Int32) (m : zz_Mem), zz_Sim zz_sh l G mX11_business 4 zz_vI zz_m2 (f_X11_business_30 n v1 v2 v3 v4 m) 30 [(0, .ref (zz_a G 0)), (1, .int v1), (2, .int v2), (3, .int v3), (4, .int v4)] [] m := by
  intro n
  induction n with
  | zero => intro _ _ _ _ _; exact zs_none
  | succ n ih =>
    intro v1 v2 v3 v4 m
    rw [f_X11_business_30]
    refine zs_iload dX11_business_30 4 rfl ?_
    refine zs_sipush (v := (999 : Int32)) dX11_business_32 cs_999 ?_
    refine zs_icmp_gt (tgt := 74) dX11_business_35 (by decide) ?_ ?_
    · refine zs_iconst (v := (-1 : Int32)) dX11_business_74 ci_m1 ?_
      exact zs_iret dX11_business_75 rfl rfl rfl
    · refine zs_aload_n dX11_business_38 rfl 0 rfl ?_
      refine zs_getR fl_X11_66 dX11_business_39 (sh_0 hN) rfl ?_
      refine zs_getR fl_X11_190 dX11_business_42 (sh_72 hN) rfl ?_
      refine zs_iload_n dX11_business_45 rfl 1 rfl ?_
      refine zs_iload dX11_business_46 4 rfl ?_
      refine zs_iadd dX11_business_48 ?_
      refine zs_cV_iW (rest := []) (k_X0_isOpen hN _ _) dX11_business_49 lv_X11_194 ok_X0_isOpen (zz_rcv_o (sh_81 hN) rfl) (Nat.le_of_ble_eq_true rfl) rfl rfl (Nat.le_of_ble_eq_true rfl) (fun r1 m2 => ?_)
      refine zs_if_eq (tgt := 58) dX11_business_52 (by decide) ?_ ?_
      · exact t_X11_business_58 hN ih _ _ _ _ _
      · refine zs_iinc (fun y => [(3, .int y), (0, .ref (zz_a G 0)), (1, .int v1), (2, .int v2), (4, .int v4)]) dX11_business_55 3 rfl ci_1 (Nat.le_of_ble_eq_true rfl) (fun _ => rfl) (fun x3 => ?_)
        refine zs_sub [1, 2, 3, 0, 4] rfl ?_
        exact t_X11_business_58 hN ih _ _ _ _ _
def f_X11_business  (p1 : Int32) (p2 : Int32) (m : zz_Mem) : Option (Int32 × zz_Mem) :=
  if p1 < 0 then (
  some ((-3 : Int32), m))
  else (
  if (999 : Int32) < p1 then (
  some ((-3 : Int32), m))
  else (
  if p2 < (1 : Int32) then (
  some ((-3 : Int32), m))
  else (
  if p2 ≤ (99 : Int32) then (
  f_X11_business_30 zz_fuel p1 p2 (0 : Int32) (1 : Int32) m)
  else (
  some ((-3 : Int32), m)))))
theorem k_X11_business {l : Launch} {G : zz_G} (hN : 107 ≤ zz_N G) : ∀ (p1 : Int32) (p2 : Int32) (m : zz_Mem), zz_Con zz_sh l G mX11_business 4 [.ref (zz_a G 0), .int p1, .int p2] zz_vI zz_m2 (f_X11_business p1 p2 m) m := by
  intro p1 p2 m
  refine zz_con (lv := [(0, .ref (zz_a G 0)), (1, .int p1), (2, .int p2)]) (by decide +kernel) (Nat.le_of_ble_eq_true rfl) rfl ?_
  unfold f_X11_business
  refine zs_iload_n dX11_business_0 rfl 1 rfl ?_
  refine zs_if_lt (tgt := 22) dX11_business_1 (by decide) ?_ ?_
  · refine zs_bipush (v := (-3 : Int32)) dX11_business_22 cb_m3 ?_
    exact zs_iret dX11_business_24 rfl rfl rfl
  · refine zs_iload_n dX11_business_4 rfl 1 rfl ?_
    refine zs_sipush (v := (999 : Int32)) dX11_business_5 cs_999 ?_
    refine zs_icmp_gt (tgt := 22) dX11_business_8 (by decide) ?_ ?_
    · refine zs_bipush (v := (-3 : Int32)) dX11_business_22 cb_m3 ?_
      exact zs_iret dX11_business_24 rfl rfl rfl
    · refine zs_iload_n dX11_business_11 rfl 2 rfl ?_
      refine zs_iconst (v := (1 : Int32)) dX11_business_12 ci_1 ?_
      refine zs_icmp_lt (tgt := 22) dX11_business_13 (by decide) ?_ ?_
      · refine zs_bipush (v := (-3 : Int32)) dX11_business_22 cb_m3 ?_
        exact zs_iret dX11_business_24 rfl rfl rfl
      · refine zs_iload_n dX11_business_16 rfl 2 rfl ?_
        refine zs_bipush (v := (99 : Int32)) dX11_business_17 cb_99 ?_
        refine zs_icmp_le (tgt := 25) dX11_business_19 (by decide) ?_ ?_
        · refine zs_iconst (v := (0 : Int32)) dX11_business_25 ci_0 ?_
          refine zs_istore_n [(3, .int (0 : Int32)), (0, .ref (zz_a G 0)), (1, .int p1), (2, .int p2)] dX11_business_26 rfl (Nat.le_of_ble_eq_true rfl) rfl ?_
          refine zs_iconst (v := (1 : Int32)) dX11_business_27 ci_1 ?_
          refine zs_istore [(4, .int (1 : Int32)), (3, .int (0 : Int32)), (0, .ref (zz_a G 0)), (1, .int p1), (2, .int p2)] dX11_business_28 (Nat.le_of_ble_eq_true rfl) rfl ?_
          refine zs_sub [2, 3, 4, 1, 0] rfl ?_
          exact t_X11_business_30 hN zz_fuel _ _ _ _ _
        · refine zs_bipush (v := (-3 : Int32)) dX11_business_22 cb_m3 ?_
          exact zs_iret dX11_business_24 rfl rfl rfl
/-! X11_period: PillarDesk.period(II)I -/
theorem dX11_period_0 : decode cX11_period 0 = .ok (.aload_n 0, 1) := by decide +kernel
theorem dX11_period_1 : decode cX11_period 1 = .ok (.getfield 20, 3) := by decide +kernel
theorem dX11_period_4 : decode cX11_period 4 = .ok (.iload_n 1, 1) := by decide +kernel
theorem dX11_period_5 : decode cX11_period 5 = .ok (.invokevirtual 141, 3) := by decide +kernel
theorem dX11_period_8 : decode cX11_period 8 = .ok (.ifCond .eq 16, 3) := by decide +kernel
theorem dX11_period_11 : decode cX11_period 11 = .ok (.aload_n 0, 1) := by decide +kernel
theorem dX11_period_12 : decode cX11_period 12 = .ok (.getfield 20, 3) := by decide +kernel
theorem dX11_period_15 : decode cX11_period 15 = .ok (.getfield 145, 3) := by decide +kernel
theorem dX11_period_18 : decode cX11_period 18 = .ok (.iload_n 1, 1) := by decide +kernel
theorem dX11_period_19 : decode cX11_period 19 = .ok (.iaload, 1) := by decide +kernel
theorem dX11_period_20 : decode cX11_period 20 = .ok (.iconst 2, 1) := by decide +kernel
theorem dX11_period_21 : decode cX11_period 21 = .ok (.if_icmp .eq 6, 3) := by decide +kernel
theorem dX11_period_24 : decode cX11_period 24 = .ok (.bipush (-2), 2) := by decide +kernel
theorem dX11_period_26 : decode cX11_period 26 = .ok (.ireturn, 1) := by decide +kernel
theorem dX11_period_27 : decode cX11_period 27 = .ok (.iload_n 2, 1) := by decide +kernel
theorem dX11_period_28 : decode cX11_period 28 = .ok (.ifCond .ge 6, 3) := by decide +kernel
theorem dX11_period_31 : decode cX11_period 31 = .ok (.bipush (-3), 2) := by decide +kernel
theorem dX11_period_33 : decode cX11_period 33 = .ok (.ireturn, 1) := by decide +kernel
theorem dX11_period_34 : decode cX11_period 34 = .ok (.iload_n 2, 1) := by decide +kernel
theorem dX11_period_35 : decode cX11_period 35 = .ok (.aload_n 0, 1) := by decide +kernel
theorem dX11_period_36 : decode cX11_period 36 = .ok (.getfield 66, 3) := by decide +kernel
theorem dX11_period_39 : decode cX11_period 39 = .ok (.getfield 203, 3) := by decide +kernel
theorem dX11_period_42 : decode cX11_period 42 = .ok (.iload_n 1, 1) := by decide +kernel
theorem dX11_period_43 : decode cX11_period 43 = .ok (.iaload, 1) := by decide +kernel
theorem dX11_period_44 : decode cX11_period 44 = .ok (.if_icmp .ge 15, 3) := by decide +kernel
theorem dX11_period_47 : decode cX11_period 47 = .ok (.aload_n 0, 1) := by decide +kernel
theorem dX11_period_48 : decode cX11_period 48 = .ok (.getfield 66, 3) := by decide +kernel
theorem dX11_period_51 : decode cX11_period 51 = .ok (.iload_n 1, 1) := by decide +kernel
theorem dX11_period_52 : decode cX11_period 52 = .ok (.iload_n 2, 1) := by decide +kernel
theorem dX11_period_53 : decode cX11_period 53 = .ok (.invokevirtual 206, 3) := by decide +kernel
theorem dX11_period_56 : decode cX11_period 56 = .ok (.goto 4, 3) := by decide +kernel
theorem dX11_period_59 : decode cX11_period 59 = .ok (.iconst (-1), 1) := by decide +kernel
theorem dX11_period_60 : decode cX11_period 60 = .ok (.ireturn, 1) := by decide +kernel
def f_X11_period (m : zz_Mem) (p1 : Int32) (p2 : Int32) : Option Int32 :=
  zz_bndR (f_X6_hasInput m p1) fun r1 =>
  if r1 = 0 then (
  some (-2 : Int32))
  else (
  zz_ix p1 8 <|
  if (m.1 4 p1.toNatClampNeg) = (2 : Int32) then (
  if 0 ≤ p2 then (
  zz_ix p1 8 <|
  if (m.1 75 p1.toNatClampNeg) ≤ p2 then (
  some (-1 : Int32))
  else (
  zz_bndR (f_X8_periodEnd m p1 p2) fun r2 =>
  some r2))
  else (
  some (-3 : Int32)))
  else (
  some (-2 : Int32)))
theorem k_X11_period {l : Launch} {G : zz_G} (hN : 107 ≤ zz_N G) : ∀ (p1 : Int32) (p2 : Int32) (m : zz_Mem), zz_Con zz_sh l G mX11_period 1 [.ref (zz_a G 0), .int p1, .int p2] zz_vIr (zz_mC m) (f_X11_period m p1 p2) m := by
  intro p1 p2 m
  refine zz_con (lv := [(0, .ref (zz_a G 0)), (1, .int p1), (2, .int p2)]) (by decide +kernel) (Nat.le_of_ble_eq_true rfl) rfl ?_
  unfold f_X11_period
  refine zs_aload_n dX11_period_0 rfl 0 rfl ?_
  refine zs_getR fl_X11_20 dX11_period_1 (sh_0 hN) rfl ?_
  refine zs_iload_n dX11_period_4 rfl 1 rfl ?_
  refine zs_cV_iR (rest := []) (k_X6_hasInput hN _ _) dX11_period_5 lv_X11_141 ok_X6_hasInput (zz_rcv_o (sh_2 hN) rfl) (Nat.le_of_ble_eq_true rfl) rfl rfl (Nat.le_of_ble_eq_true rfl) (fun r1 => ?_)
  refine zs_if_eq (tgt := 24) dX11_period_8 (by decide) ?_ ?_
  · refine zs_bipush (v := (-2 : Int32)) dX11_period_24 cb_m2 ?_
    exact zs_iret dX11_period_26 rfl rfl rfl
  · refine zs_aload_n dX11_period_11 rfl 0 rfl ?_
    refine zs_getR fl_X11_20 dX11_period_12 (sh_0 hN) rfl ?_
    refine zs_getR fl_X11_145 dX11_period_15 (sh_2 hN) rfl ?_
    refine zs_iload_n dX11_period_18 rfl 1 rfl ?_
    refine zs_ialdG dX11_period_19 (sh_4 hN) ?_
    refine zs_iconst (v := (2 : Int32)) dX11_period_20 ci_2 ?_
    refine zs_icmp_eq (tgt := 27) dX11_period_21 (by decide) ?_ ?_
    · refine zs_iload_n dX11_period_27 rfl 2 rfl ?_
      refine zs_if_ge (tgt := 34) dX11_period_28 (by decide) ?_ ?_
      · refine zs_iload_n dX11_period_34 rfl 2 rfl ?_
        refine zs_aload_n dX11_period_35 rfl 0 rfl ?_
        refine zs_getR fl_X11_66 dX11_period_36 (sh_0 hN) rfl ?_
        refine zs_getR fl_X11_203 dX11_period_39 (sh_72 hN) rfl ?_
        refine zs_iload_n dX11_period_42 rfl 1 rfl ?_
        refine zs_ialdG dX11_period_43 (sh_75 hN) ?_
        refine zs_icmp_ge (tgt := 59) dX11_period_44 (by decide) ?_ ?_
        · refine zs_iconst (v := (-1 : Int32)) dX11_period_59 ci_m1 ?_
          exact zs_iret dX11_period_60 rfl rfl rfl
        · refine zs_aload_n dX11_period_47 rfl 0 rfl ?_
          refine zs_getR fl_X11_66 dX11_period_48 (sh_0 hN) rfl ?_
          refine zs_iload_n dX11_period_51 rfl 1 rfl ?_
          refine zs_iload_n dX11_period_52 rfl 2 rfl ?_
          refine zs_cV_iR (rest := []) (k_X8_periodEnd hN _ _ _) dX11_period_53 lv_X11_206 ok_X8_periodEnd (zz_rcv_o (sh_72 hN) rfl) (Nat.le_of_ble_eq_true rfl) rfl rfl (Nat.le_of_ble_eq_true rfl) (fun r2 => ?_)
          refine zs_goto (tgt := 60) dX11_period_56 (by decide) ?_
          exact zs_iret dX11_period_60 rfl rfl rfl
      · refine zs_bipush (v := (-3 : Int32)) dX11_period_31 cb_m3 ?_
        exact zs_iret dX11_period_33 rfl rfl rfl
    · refine zs_bipush (v := (-2 : Int32)) dX11_period_24 cb_m2 ?_
      exact zs_iret dX11_period_26 rfl rfl rfl
/-! X11_remember: PillarDesk.remember(I)V -/
theorem dX11_remember_0 : decode cX11_remember 0 = .ok (.iload_n 1, 1) := by decide +kernel
theorem dX11_remember_1 : decode cX11_remember 1 = .ok (.ifCond .le 19, 3) := by decide +kernel
theorem dX11_remember_4 : decode cX11_remember 4 = .ok (.aload_n 0, 1) := by decide +kernel
theorem dX11_remember_5 : decode cX11_remember 5 = .ok (.getfield 49, 3) := by decide +kernel
theorem dX11_remember_8 : decode cX11_remember 8 = .ok (.aload_n 0, 1) := by decide +kernel
theorem dX11_remember_9 : decode cX11_remember 9 = .ok (.getfield 56, 3) := by decide +kernel
theorem dX11_remember_12 : decode cX11_remember 12 = .ok (.invokevirtual 230, 3) := by decide +kernel
theorem dX11_remember_15 : decode cX11_remember 15 = .ok (.aload_n 0, 1) := by decide +kernel
theorem dX11_remember_16 : decode cX11_remember 16 = .ok (.iconst 1, 1) := by decide +kernel
theorem dX11_remember_17 : decode cX11_remember 17 = .ok (.putfield 104, 3) := by decide +kernel
theorem dX11_remember_20 : decode cX11_remember 20 = .ok (.return_, 1) := by decide +kernel
def f_X11_remember  (p1 : Int32) (m : zz_Mem) : Option zz_Mem :=
  if p1 ≤ 0 then (
  some m)
  else (
  zz_bndR (f_X5_push m) fun m1 =>
  zz_letM (zz_setI m1 0 18 (1 : Int32)) fun m2 =>
  some m2)
theorem k_X11_remember {l : Launch} {G : zz_G} (hN : 107 ≤ zz_N G) : ∀ (p1 : Int32) (m : zz_Mem), zz_Con zz_sh l G mX11_remember 3 [.ref (zz_a G 0), .int p1] zz_vV zz_mV (f_X11_remember p1 m) m := by
  intro p1 m
  refine zz_con (lv := [(0, .ref (zz_a G 0)), (1, .int p1)]) (by decide +kernel) (Nat.le_of_ble_eq_true rfl) rfl ?_
  unfold f_X11_remember
  refine zs_iload_n dX11_remember_0 rfl 1 rfl ?_
  refine zs_if_le (tgt := 20) dX11_remember_1 (by decide) ?_ ?_
  · exact zs_vret dX11_remember_20 rfl rfl rfl
  · refine zs_aload_n dX11_remember_4 rfl 0 rfl ?_
    refine zs_getR fl_X11_49 dX11_remember_5 (sh_0 hN) rfl ?_
    refine zs_aload_n dX11_remember_8 rfl 0 rfl ?_
    refine zs_getR fl_X11_56 dX11_remember_9 (sh_0 hN) rfl ?_
    refine zs_cV_vW (rest := []) (k_X5_push hN  _) dX11_remember_12 lv_X11_230 ok_X5_push (zz_rcv_o (sh_34 hN) rfl) (Nat.le_of_ble_eq_true rfl) rfl rfl (Nat.le_of_ble_eq_true rfl) (fun m1 => ?_)
    refine zs_aload_n dX11_remember_15 rfl 0 rfl ?_
    refine zs_iconst (v := (1 : Int32)) dX11_remember_16 ci_1 ?_
    refine zs_putI fl_X11_104 dX11_remember_17 (sh_0 hN) rfl ⟨rfl, rfl⟩ (fun m2 => ?_)
    exact zs_vret dX11_remember_20 rfl rfl rfl
/-! X11_bump: PillarDesk.bump(II)I -/
theorem dX11_bump_0 : decode cX11_bump 0 = .ok (.aload_n 0, 1) := by decide +kernel
theorem dX11_bump_1 : decode cX11_bump 1 = .ok (.getfield 56, 3) := by decide +kernel
theorem dX11_bump_4 : decode cX11_bump 4 = .ok (.aload_n 0, 1) := by decide +kernel
theorem dX11_bump_5 : decode cX11_bump 5 = .ok (.getfield 20, 3) := by decide +kernel
theorem dX11_bump_8 : decode cX11_bump 8 = .ok (.getfield 160, 3) := by decide +kernel
theorem dX11_bump_11 : decode cX11_bump 11 = .ok (.invokevirtual 210, 3) := by decide +kernel
theorem dX11_bump_14 : decode cX11_bump 14 = .ok (.aload_n 0, 1) := by decide +kernel
theorem dX11_bump_15 : decode cX11_bump 15 = .ok (.getfield 20, 3) := by decide +kernel
theorem dX11_bump_18 : decode cX11_bump 18 = .ok (.aload_n 0, 1) := by decide +kernel
theorem dX11_bump_19 : decode cX11_bump 19 = .ok (.getfield 20, 3) := by decide +kernel
theorem dX11_bump_22 : decode cX11_bump 22 = .ok (.getfield 160, 3) := by decide +kernel
theorem dX11_bump_25 : decode cX11_bump 25 = .ok (.iload_n 1, 1) := by decide +kernel
theorem dX11_bump_26 : decode cX11_bump 26 = .ok (.iload_n 2, 1) := by decide +kernel
theorem dX11_bump_27 : decode cX11_bump 27 = .ok (.invokevirtual 213, 3) := by decide +kernel
theorem dX11_bump_30 : decode cX11_bump 30 = .ok (.istore_n 3, 1) := by decide +kernel
theorem dX11_bump_31 : decode cX11_bump 31 = .ok (.iload_n 3, 1) := by decide +kernel
theorem dX11_bump_32 : decode cX11_bump 32 = .ok (.ifCond .eq 8, 3) := by decide +kernel
theorem dX11_bump_35 : decode cX11_bump 35 = .ok (.bipush (-10), 2) := by decide +kernel
theorem dX11_bump_37 : decode cX11_bump 37 = .ok (.iload_n 3, 1) := by decide +kernel
theorem dX11_bump_38 : decode cX11_bump 38 = .ok (.isub, 1) := by decide +kernel
theorem dX11_bump_39 : decode cX11_bump 39 = .ok (.ireturn, 1) := by decide +kernel
theorem dX11_bump_40 : decode cX11_bump 40 = .ok (.aload_n 0, 1) := by decide +kernel
theorem dX11_bump_41 : decode cX11_bump 41 = .ok (.iconst 1, 1) := by decide +kernel
theorem dX11_bump_42 : decode cX11_bump 42 = .ok (.invokevirtual 217, 3) := by decide +kernel
theorem dX11_bump_45 : decode cX11_bump 45 = .ok (.aload_n 0, 1) := by decide +kernel
theorem dX11_bump_46 : decode cX11_bump 46 = .ok (.getfield 20, 3) := by decide +kernel
theorem dX11_bump_49 : decode cX11_bump 49 = .ok (.iload_n 1, 1) := by decide +kernel
theorem dX11_bump_50 : decode cX11_bump 50 = .ok (.invokevirtual 141, 3) := by decide +kernel
theorem dX11_bump_53 : decode cX11_bump 53 = .ok (.ifCond .eq 18, 3) := by decide +kernel
theorem dX11_bump_56 : decode cX11_bump 56 = .ok (.aload_n 0, 1) := by decide +kernel
theorem dX11_bump_57 : decode cX11_bump 57 = .ok (.getfield 20, 3) := by decide +kernel
theorem dX11_bump_60 : decode cX11_bump 60 = .ok (.getfield 160, 3) := by decide +kernel
theorem dX11_bump_63 : decode cX11_bump 63 = .ok (.getfield 163, 3) := by decide +kernel
theorem dX11_bump_66 : decode cX11_bump 66 = .ok (.iload_n 1, 1) := by decide +kernel
theorem dX11_bump_67 : decode cX11_bump 67 = .ok (.iaload, 1) := by decide +kernel
theorem dX11_bump_68 : decode cX11_bump 68 = .ok (.goto 5, 3) := by decide +kernel
theorem dX11_bump_71 : decode cX11_bump 71 = .ok (.bipush (-2), 2) := by decide +kernel
theorem dX11_bump_73 : decode cX11_bump 73 = .ok (.ireturn, 1) := by decide +kernel
def f_X11_bump  (p1 : Int32) (p2 : Int32) (m : zz_Mem) : Option (Int32 × zz_Mem) :=
  zz_bndR (f_X9_copyFrom 66 13 m) fun m1 =>
  zz_bnd (f_X6_doBump 13 p1 p2 m1) fun r2 m3 =>
  if r2 = 0 then (
  zz_bndR (f_X11_remember (1 : Int32) m3) fun m4 =>
  zz_bndR (f_X6_hasInput m4 p1) fun r5 =>
  if r5 = 0 then (
  some ((-2 : Int32), m4))
  else (
  zz_ix p1 8 <|
  some (m4.1 14 p1.toNatClampNeg, m4)))
  else (
  some ((-10 : Int32) - r2, m3))
theorem k_X11_bump {l : Launch} {G : zz_G} (hN : 107 ≤ zz_N G) : ∀ (p1 : Int32) (p2 : Int32) (m : zz_Mem), zz_Con zz_sh l G mX11_bump 4 [.ref (zz_a G 0), .int p1, .int p2] zz_vI zz_m2 (f_X11_bump p1 p2 m) m := by
  intro p1 p2 m
  refine zz_con (lv := [(0, .ref (zz_a G 0)), (1, .int p1), (2, .int p2)]) (by decide +kernel) (Nat.le_of_ble_eq_true rfl) rfl ?_
  unfold f_X11_bump
  refine zs_aload_n dX11_bump_0 rfl 0 rfl ?_
  refine zs_getR fl_X11_56 dX11_bump_1 (sh_0 hN) rfl ?_
  refine zs_aload_n dX11_bump_4 rfl 0 rfl ?_
  refine zs_getR fl_X11_20 dX11_bump_5 (sh_0 hN) rfl ?_
  refine zs_getR fl_X11_160 dX11_bump_8 (sh_2 hN) rfl ?_
  refine zs_cV_vW (rest := []) (k_X9_copyFrom hN ((isStand_66 hN)) ((isStand_13 hN))  _) dX11_bump_11 lv_X11_210 ok_X9_copyFrom (zz_rcv_o (sh_66 hN) rfl) (Nat.le_of_ble_eq_true rfl) rfl rfl (Nat.le_of_ble_eq_true rfl) (fun m1 => ?_)
  refine zs_aload_n dX11_bump_14 rfl 0 rfl ?_
  refine zs_getR fl_X11_20 dX11_bump_15 (sh_0 hN) rfl ?_
  refine zs_aload_n dX11_bump_18 rfl 0 rfl ?_
  refine zs_getR fl_X11_20 dX11_bump_19 (sh_0 hN) rfl ?_
  refine zs_getR fl_X11_160 dX11_bump_22 (sh_2 hN) rfl ?_
  refine zs_iload_n dX11_bump_25 rfl 1 rfl ?_
  refine zs_iload_n dX11_bump_26 rfl 2 rfl ?_
  refine zs_cV_iW (rest := []) (k_X6_doBump hN ((isStand_13 hN)) _ _ _) dX11_bump_27 lv_X11_213 ok_X6_doBump (zz_rcv_o (sh_2 hN) rfl) (Nat.le_of_ble_eq_true rfl) rfl rfl (Nat.le_of_ble_eq_true rfl) (fun r2 m3 => ?_)
  refine zs_istore_n [(3, .int r2), (0, .ref (zz_a G 0)), (1, .int p1), (2, .int p2)] dX11_bump_30 rfl (Nat.le_of_ble_eq_true rfl) rfl ?_
  refine zs_iload_n dX11_bump_31 rfl 0 rfl ?_
  refine zs_if_eq (tgt := 40) dX11_bump_32 (by decide) ?_ ?_
  · refine zs_aload_n dX11_bump_40 rfl 1 rfl ?_
    refine zs_iconst (v := (1 : Int32)) dX11_bump_41 ci_1 ?_
    refine zs_cV_vW (rest := []) (k_X11_remember hN _ _) dX11_bump_42 lv_X11_217 ok_X11_remember (zz_rcv_o (sh_0 hN) rfl) (Nat.le_of_ble_eq_true rfl) rfl rfl (Nat.le_of_ble_eq_true rfl) (fun m4 => ?_)
    refine zs_aload_n dX11_bump_45 rfl 1 rfl ?_
    refine zs_getR fl_X11_20 dX11_bump_46 (sh_0 hN) rfl ?_
    refine zs_iload_n dX11_bump_49 rfl 2 rfl ?_
    refine zs_cV_iR (rest := []) (k_X6_hasInput hN _ _) dX11_bump_50 lv_X11_141 ok_X6_hasInput (zz_rcv_o (sh_2 hN) rfl) (Nat.le_of_ble_eq_true rfl) rfl rfl (Nat.le_of_ble_eq_true rfl) (fun r5 => ?_)
    refine zs_if_eq (tgt := 71) dX11_bump_53 (by decide) ?_ ?_
    · refine zs_bipush (v := (-2 : Int32)) dX11_bump_71 cb_m2 ?_
      exact zs_iret dX11_bump_73 rfl rfl rfl
    · refine zs_aload_n dX11_bump_56 rfl 1 rfl ?_
      refine zs_getR fl_X11_20 dX11_bump_57 (sh_0 hN) rfl ?_
      refine zs_getR fl_X11_160 dX11_bump_60 (sh_2 hN) rfl ?_
      refine zs_getR fl_X11_163 dX11_bump_63 (sh_13 hN) rfl ?_
      refine zs_iload_n dX11_bump_66 rfl 2 rfl ?_
      refine zs_ialdG dX11_bump_67 (sh_14 hN) ?_
      refine zs_goto (tgt := 73) dX11_bump_68 (by decide) ?_
      exact zs_iret dX11_bump_73 rfl rfl rfl
  · refine zs_bipush (v := (-10 : Int32)) dX11_bump_35 cb_m10 ?_
    refine zs_iload_n dX11_bump_37 rfl 0 rfl ?_
    refine zs_isub dX11_bump_38 ?_
    exact zs_iret dX11_bump_39 rfl rfl rfl
/-! X11_shift: PillarDesk.shift(I)I -/
theorem dX11_shift_0 : decode cX11_shift 0 = .ok (.aload_n 0, 1) := by decide +kernel
theorem dX11_shift_1 : decode cX11_shift 1 = .ok (.getfield 56, 3) := by decide +kernel
theorem dX11_shift_4 : decode cX11_shift 4 = .ok (.aload_n 0, 1) := by decide +kernel
theorem dX11_shift_5 : decode cX11_shift 5 = .ok (.getfield 20, 3) := by decide +kernel
theorem dX11_shift_8 : decode cX11_shift 8 = .ok (.getfield 160, 3) := by decide +kernel
theorem dX11_shift_11 : decode cX11_shift 11 = .ok (.invokevirtual 210, 3) := by decide +kernel
theorem dX11_shift_14 : decode cX11_shift 14 = .ok (.aload_n 0, 1) := by decide +kernel
theorem dX11_shift_15 : decode cX11_shift 15 = .ok (.getfield 20, 3) := by decide +kernel
theorem dX11_shift_18 : decode cX11_shift 18 = .ok (.aload_n 0, 1) := by decide +kernel
theorem dX11_shift_19 : decode cX11_shift 19 = .ok (.getfield 20, 3) := by decide +kernel
theorem dX11_shift_22 : decode cX11_shift 22 = .ok (.getfield 160, 3) := by decide +kernel
theorem dX11_shift_25 : decode cX11_shift 25 = .ok (.iload_n 1, 1) := by decide +kernel
theorem dX11_shift_26 : decode cX11_shift 26 = .ok (.invokevirtual 220, 3) := by decide +kernel
theorem dX11_shift_29 : decode cX11_shift 29 = .ok (.istore_n 2, 1) := by decide +kernel
theorem dX11_shift_30 : decode cX11_shift 30 = .ok (.iload_n 2, 1) := by decide +kernel
theorem dX11_shift_31 : decode cX11_shift 31 = .ok (.ifCond .eq 8, 3) := by decide +kernel
theorem dX11_shift_34 : decode cX11_shift 34 = .ok (.bipush (-10), 2) := by decide +kernel
theorem dX11_shift_36 : decode cX11_shift 36 = .ok (.iload_n 2, 1) := by decide +kernel
theorem dX11_shift_37 : decode cX11_shift 37 = .ok (.isub, 1) := by decide +kernel
theorem dX11_shift_38 : decode cX11_shift 38 = .ok (.ireturn, 1) := by decide +kernel
theorem dX11_shift_39 : decode cX11_shift 39 = .ok (.aload_n 0, 1) := by decide +kernel
theorem dX11_shift_40 : decode cX11_shift 40 = .ok (.iconst 1, 1) := by decide +kernel
theorem dX11_shift_41 : decode cX11_shift 41 = .ok (.invokevirtual 217, 3) := by decide +kernel
theorem dX11_shift_44 : decode cX11_shift 44 = .ok (.aload_n 0, 1) := by decide +kernel
theorem dX11_shift_45 : decode cX11_shift 45 = .ok (.getfield 56, 3) := by decide +kernel
theorem dX11_shift_48 : decode cX11_shift 48 = .ok (.getfield 224, 3) := by decide +kernel
theorem dX11_shift_51 : decode cX11_shift 51 = .ok (.ireturn, 1) := by decide +kernel
def f_X11_shift  (p1 : Int32) (m : zz_Mem) : Option (Int32 × zz_Mem) :=
  zz_bndR (f_X9_copyFrom 66 13 m) fun m1 =>
  zz_bnd (f_X6_doShift 13 p1 m1) fun r2 m3 =>
  if r2 = 0 then (
  zz_bndR (f_X11_remember (1 : Int32) m3) fun m4 =>
  some (m4.1 66 2, m4))
  else (
  some ((-10 : Int32) - r2, m3))
theorem k_X11_shift {l : Launch} {G : zz_G} (hN : 107 ≤ zz_N G) : ∀ (p1 : Int32) (m : zz_Mem), zz_Con zz_sh l G mX11_shift 4 [.ref (zz_a G 0), .int p1] zz_vI zz_m2 (f_X11_shift p1 m) m := by
  intro p1 m
  refine zz_con (lv := [(0, .ref (zz_a G 0)), (1, .int p1)]) (by decide +kernel) (Nat.le_of_ble_eq_true rfl) rfl ?_
  unfold f_X11_shift
  refine zs_aload_n dX11_shift_0 rfl 0 rfl ?_
  refine zs_getR fl_X11_56 dX11_shift_1 (sh_0 hN) rfl ?_
  refine zs_aload_n dX11_shift_4 rfl 0 rfl ?_
  refine zs_getR fl_X11_20 dX11_shift_5 (sh_0 hN) rfl ?_
  refine zs_getR fl_X11_160 dX11_shift_8 (sh_2 hN) rfl ?_
  refine zs_cV_vW (rest := []) (k_X9_copyFrom hN ((isStand_66 hN)) ((isStand_13 hN))  _) dX11_shift_11 lv_X11_210 ok_X9_copyFrom (zz_rcv_o (sh_66 hN) rfl) (Nat.le_of_ble_eq_true rfl) rfl rfl (Nat.le_of_ble_eq_true rfl) (fun m1 => ?_)
  refine zs_aload_n dX11_shift_14 rfl 0 rfl ?_
  refine zs_getR fl_X11_20 dX11_shift_15 (sh_0 hN) rfl ?_
  refine zs_aload_n dX11_shift_18 rfl 0 rfl ?_
  refine zs_getR fl_X11_20 dX11_shift_19 (sh_0 hN) rfl ?_
  refine zs_getR fl_X11_160 dX11_shift_22 (sh_2 hN) rfl ?_
  refine zs_iload_n dX11_shift_25 rfl 1 rfl ?_
  refine zs_cV_iW (rest := []) (k_X6_doShift hN ((isStand_13 hN)) _ _) dX11_shift_26 lv_X11_220 ok_X6_doShift (zz_rcv_o (sh_2 hN) rfl) (Nat.le_of_ble_eq_true rfl) rfl rfl (Nat.le_of_ble_eq_true rfl) (fun r2 m3 => ?_)
  refine zs_istore_n [(2, .int r2), (0, .ref (zz_a G 0)), (1, .int p1)] dX11_shift_29 rfl (Nat.le_of_ble_eq_true rfl) rfl ?_
  refine zs_iload_n dX11_shift_30 rfl 0 rfl ?_
  refine zs_if_eq (tgt := 39) dX11_shift_31 (by decide) ?_ ?_
  · refine zs_aload_n dX11_shift_39 rfl 1 rfl ?_
    refine zs_iconst (v := (1 : Int32)) dX11_shift_40 ci_1 ?_
    refine zs_cV_vW (rest := []) (k_X11_remember hN _ _) dX11_shift_41 lv_X11_217 ok_X11_remember (zz_rcv_o (sh_0 hN) rfl) (Nat.le_of_ble_eq_true rfl) rfl rfl (Nat.le_of_ble_eq_true rfl) (fun m4 => ?_)
    refine zs_aload_n dX11_shift_44 rfl 1 rfl ?_
    refine zs_getR fl_X11_56 dX11_shift_45 (sh_0 hN) rfl ?_
    refine zs_getI fl_X11_224 dX11_shift_48 (sh_66 hN) rfl ?_
    exact zs_iret dX11_shift_51 rfl rfl rfl
  · refine zs_bipush (v := (-10 : Int32)) dX11_shift_34 cb_m10 ?_
    refine zs_iload_n dX11_shift_36 rfl 0 rfl ?_
    refine zs_isub dX11_shift_37 ?_
    exact zs_iret dX11_shift_38 rfl rfl rfl
/-! X11_amount: PillarDesk.amount(II)I -/
theorem dX11_amount_0 : decode cX11_amount 0 = .ok (.aload_n 0, 1) := by decide +kernel
theorem dX11_amount_1 : decode cX11_amount 1 = .ok (.getfield 56, 3) := by decide +kernel
theorem dX11_amount_4 : decode cX11_amount 4 = .ok (.aload_n 0, 1) := by decide +kernel
theorem dX11_amount_5 : decode cX11_amount 5 = .ok (.getfield 20, 3) := by decide +kernel
theorem dX11_amount_8 : decode cX11_amount 8 = .ok (.getfield 160, 3) := by decide +kernel
theorem dX11_amount_11 : decode cX11_amount 11 = .ok (.invokevirtual 210, 3) := by decide +kernel
theorem dX11_amount_14 : decode cX11_amount 14 = .ok (.aload_n 0, 1) := by decide +kernel
theorem dX11_amount_15 : decode cX11_amount 15 = .ok (.getfield 20, 3) := by decide +kernel
theorem dX11_amount_18 : decode cX11_amount 18 = .ok (.aload_n 0, 1) := by decide +kernel
theorem dX11_amount_19 : decode cX11_amount 19 = .ok (.getfield 20, 3) := by decide +kernel
theorem dX11_amount_22 : decode cX11_amount 22 = .ok (.getfield 160, 3) := by decide +kernel
theorem dX11_amount_25 : decode cX11_amount 25 = .ok (.iload_n 1, 1) := by decide +kernel
theorem dX11_amount_26 : decode cX11_amount 26 = .ok (.iload_n 2, 1) := by decide +kernel
theorem dX11_amount_27 : decode cX11_amount 27 = .ok (.invokevirtual 227, 3) := by decide +kernel
theorem dX11_amount_30 : decode cX11_amount 30 = .ok (.istore_n 3, 1) := by decide +kernel
theorem dX11_amount_31 : decode cX11_amount 31 = .ok (.iload_n 3, 1) := by decide +kernel
theorem dX11_amount_32 : decode cX11_amount 32 = .ok (.ifCond .eq 8, 3) := by decide +kernel
theorem dX11_amount_35 : decode cX11_amount 35 = .ok (.bipush (-10), 2) := by decide +kernel
theorem dX11_amount_37 : decode cX11_amount 37 = .ok (.iload_n 3, 1) := by decide +kernel
theorem dX11_amount_38 : decode cX11_amount 38 = .ok (.isub, 1) := by decide +kernel
theorem dX11_amount_39 : decode cX11_amount 39 = .ok (.ireturn, 1) := by decide +kernel
theorem dX11_amount_40 : decode cX11_amount 40 = .ok (.aload_n 0, 1) := by decide +kernel
theorem dX11_amount_41 : decode cX11_amount 41 = .ok (.iconst 1, 1) := by decide +kernel
theorem dX11_amount_42 : decode cX11_amount 42 = .ok (.invokevirtual 217, 3) := by decide +kernel
theorem dX11_amount_45 : decode cX11_amount 45 = .ok (.iconst 0, 1) := by decide +kernel
theorem dX11_amount_46 : decode cX11_amount 46 = .ok (.ireturn, 1) := by decide +kernel
def f_X11_amount  (p1 : Int32) (p2 : Int32) (m : zz_Mem) : Option (Int32 × zz_Mem) :=
  zz_bndR (f_X9_copyFrom 66 13 m) fun m1 =>
  zz_bnd (f_X6_doAmount 13 p1 p2 m1) fun r2 m3 =>
  if r2 = 0 then (
  zz_bndR (f_X11_remember (1 : Int32) m3) fun m4 =>
  some ((0 : Int32), m4))
  else (
  some ((-10 : Int32) - r2, m3))
theorem k_X11_amount {l : Launch} {G : zz_G} (hN : 107 ≤ zz_N G) : ∀ (p1 : Int32) (p2 : Int32) (m : zz_Mem), zz_Con zz_sh l G mX11_amount 4 [.ref (zz_a G 0), .int p1, .int p2] zz_vI zz_m2 (f_X11_amount p1 p2 m) m := by
  intro p1 p2 m
  refine zz_con (lv := [(0, .ref (zz_a G 0)), (1, .int p1), (2, .int p2)]) (by decide +kernel) (Nat.le_of_ble_eq_true rfl) rfl ?_
  unfold f_X11_amount
  refine zs_aload_n dX11_amount_0 rfl 0 rfl ?_
  refine zs_getR fl_X11_56 dX11_amount_1 (sh_0 hN) rfl ?_
  refine zs_aload_n dX11_amount_4 rfl 0 rfl ?_
  refine zs_getR fl_X11_20 dX11_amount_5 (sh_0 hN) rfl ?_
  refine zs_getR fl_X11_160 dX11_amount_8 (sh_2 hN) rfl ?_
  refine zs_cV_vW (rest := []) (k_X9_copyFrom hN ((isStand_66 hN)) ((isStand_13 hN))  _) dX11_amount_11 lv_X11_210 ok_X9_copyFrom (zz_rcv_o (sh_66 hN) rfl) (Nat.le_of_ble_eq_true rfl) rfl rfl (Nat.le_of_ble_eq_true rfl) (fun m1 => ?_)
  refine zs_aload_n dX11_amount_14 rfl 0 rfl ?_
  refine zs_getR fl_X11_20 dX11_amount_15 (sh_0 hN) rfl ?_
  refine zs_aload_n dX11_amount_18 rfl 0 rfl ?_
  refine zs_getR fl_X11_20 dX11_amount_19 (sh_0 hN) rfl ?_
  refine zs_getR fl_X11_160 dX11_amount_22 (sh_2 hN) rfl ?_
  refine zs_iload_n dX11_amount_25 rfl 1 rfl ?_
  refine zs_iload_n dX11_amount_26 rfl 2 rfl ?_
  refine zs_cV_iW (rest := []) (k_X6_doAmount hN ((isStand_13 hN)) _ _ _) dX11_amount_27 lv_X11_227 ok_X6_doAmount (zz_rcv_o (sh_2 hN) rfl) (Nat.le_of_ble_eq_true rfl) rfl rfl (Nat.le_of_ble_eq_true rfl) (fun r2 m3 => ?_)
  refine zs_istore_n [(3, .int r2), (0, .ref (zz_a G 0)), (1, .int p1), (2, .int p2)] dX11_amount_30 rfl (Nat.le_of_ble_eq_true rfl) rfl ?_
  refine zs_iload_n dX11_amount_31 rfl 0 rfl ?_
  refine zs_if_eq (tgt := 40) dX11_amount_32 (by decide) ?_ ?_
  · refine zs_aload_n dX11_amount_40 rfl 1 rfl ?_
    refine zs_iconst (v := (1 : Int32)) dX11_amount_41 ci_1 ?_
    refine zs_cV_vW (rest := []) (k_X11_remember hN _ _) dX11_amount_42 lv_X11_217 ok_X11_remember (zz_rcv_o (sh_0 hN) rfl) (Nat.le_of_ble_eq_true rfl) rfl rfl (Nat.le_of_ble_eq_true rfl) (fun m4 => ?_)
    refine zs_iconst (v := (0 : Int32)) dX11_amount_45 ci_0 ?_
    exact zs_iret dX11_amount_46 rfl rfl rfl
  · refine zs_bipush (v := (-10 : Int32)) dX11_amount_35 cb_m10 ?_
    refine zs_iload_n dX11_amount_37 rfl 0 rfl ?_
    refine zs_isub dX11_amount_38 ?_
    exact zs_iret dX11_amount_39 rfl rfl rfl
/-! X11_undo: PillarDesk.undo(I)I -/
theorem dX11_undo_0 : decode cX11_undo 0 = .ok (.iload_n 1, 1) := by decide +kernel
theorem dX11_undo_1 : decode cX11_undo 1 = .ok (.iconst 1, 1) := by decide +kernel
theorem dX11_undo_2 : decode cX11_undo 2 = .ok (.if_icmp .lt 20, 3) := by decide +kernel
theorem dX11_undo_5 : decode cX11_undo 5 = .ok (.iload_n 1, 1) := by decide +kernel
theorem dX11_undo_6 : decode cX11_undo 6 = .ok (.bipush 10, 2) := by decide +kernel
theorem dX11_undo_8 : decode cX11_undo 8 = .ok (.if_icmp .gt 14, 3) := by decide +kernel
theorem dX11_undo_11 : decode cX11_undo 11 = .ok (.iload_n 1, 1) := by decide +kernel
theorem dX11_undo_12 : decode cX11_undo 12 = .ok (.aload_n 0, 1) := by decide +kernel
theorem dX11_undo_13 : decode cX11_undo 13 = .ok (.getfield 49, 3) := by decide +kernel
theorem dX11_undo_16 : decode cX11_undo 16 = .ok (.getfield 233, 3) := by decide +kernel
theorem dX11_undo_19 : decode cX11_undo 19 = .ok (.if_icmp .le 6, 3) := by decide +kernel
theorem dX11_undo_22 : decode cX11_undo 22 = .ok (.bipush (-3), 2) := by decide +kernel
theorem dX11_undo_24 : decode cX11_undo 24 = .ok (.ireturn, 1) := by decide +kernel
theorem dX11_undo_25 : decode cX11_undo 25 = .ok (.aload_n 0, 1) := by decide +kernel
theorem dX11_undo_26 : decode cX11_undo 26 = .ok (.getfield 49, 3) := by decide +kernel
theorem dX11_undo_29 : decode cX11_undo 29 = .ok (.iload_n 1, 1) := by decide +kernel
theorem dX11_undo_30 : decode cX11_undo 30 = .ok (.aload_n 0, 1) := by decide +kernel
theorem dX11_undo_31 : decode cX11_undo 31 = .ok (.getfield 20, 3) := by decide +kernel
theorem dX11_undo_34 : decode cX11_undo 34 = .ok (.getfield 160, 3) := by decide +kernel
theorem dX11_undo_37 : decode cX11_undo 37 = .ok (.invokevirtual 236, 3) := by decide +kernel
theorem dX11_undo_40 : decode cX11_undo 40 = .ok (.aload_n 0, 1) := by decide +kernel
theorem dX11_undo_41 : decode cX11_undo 41 = .ok (.iconst 1, 1) := by decide +kernel
theorem dX11_undo_42 : decode cX11_undo 42 = .ok (.putfield 104, 3) := by decide +kernel
theorem dX11_undo_45 : decode cX11_undo 45 = .ok (.aload_n 0, 1) := by decide +kernel
theorem dX11_undo_46 : decode cX11_undo 46 = .ok (.getfield 49, 3) := by decide +kernel
theorem dX11_undo_49 : decode cX11_undo 49 = .ok (.getfield 233, 3) := by decide +kernel
theorem dX11_undo_52 : decode cX11_undo 52 = .ok (.ireturn, 1) := by decide +kernel
def f_X11_undo  (p1 : Int32) (m : zz_Mem) : Option (Int32 × zz_Mem) :=
  if p1 < (1 : Int32) then (
  some ((-3 : Int32), m))
  else (
  if (10 : Int32) < p1 then (
  some ((-3 : Int32), m))
  else (
  if p1 ≤ (m.1 34 2) then (
  zz_bndR (f_X5_back p1 m) fun m1 =>
  zz_letM (zz_setI m1 0 18 (1 : Int32)) fun m2 =>
  some (m2.1 34 2, m2))
  else (
  some ((-3 : Int32), m))))
theorem k_X11_undo {l : Launch} {G : zz_G} (hN : 107 ≤ zz_N G) : ∀ (p1 : Int32) (m : zz_Mem), zz_Con zz_sh l G mX11_undo 3 [.ref (zz_a G 0), .int p1] zz_vI zz_m2 (f_X11_undo p1 m) m := by
  intro p1 m
  refine zz_con (lv := [(0, .ref (zz_a G 0)), (1, .int p1)]) (by decide +kernel) (Nat.le_of_ble_eq_true rfl) rfl ?_
  unfold f_X11_undo
  refine zs_iload_n dX11_undo_0 rfl 1 rfl ?_
  refine zs_iconst (v := (1 : Int32)) dX11_undo_1 ci_1 ?_
  refine zs_icmp_lt (tgt := 22) dX11_undo_2 (by decide) ?_ ?_
  · refine zs_bipush (v := (-3 : Int32)) dX11_undo_22 cb_m3 ?_
    exact zs_iret dX11_undo_24 rfl rfl rfl
  · refine zs_iload_n dX11_undo_5 rfl 1 rfl ?_
    refine zs_bipush (v := (10 : Int32)) dX11_undo_6 cb_10 ?_
    refine zs_icmp_gt (tgt := 22) dX11_undo_8 (by decide) ?_ ?_
    · refine zs_bipush (v := (-3 : Int32)) dX11_undo_22 cb_m3 ?_
      exact zs_iret dX11_undo_24 rfl rfl rfl
    · refine zs_iload_n dX11_undo_11 rfl 1 rfl ?_
      refine zs_aload_n dX11_undo_12 rfl 0 rfl ?_
      refine zs_getR fl_X11_49 dX11_undo_13 (sh_0 hN) rfl ?_
      refine zs_getI fl_X11_233 dX11_undo_16 (sh_34 hN) rfl ?_
      refine zs_icmp_le (tgt := 25) dX11_undo_19 (by decide) ?_ ?_
      · refine zs_aload_n dX11_undo_25 rfl 0 rfl ?_
        refine zs_getR fl_X11_49 dX11_undo_26 (sh_0 hN) rfl ?_
        refine zs_iload_n dX11_undo_29 rfl 1 rfl ?_
        refine zs_aload_n dX11_undo_30 rfl 0 rfl ?_
        refine zs_getR fl_X11_20 dX11_undo_31 (sh_0 hN) rfl ?_
        refine zs_getR fl_X11_160 dX11_undo_34 (sh_2 hN) rfl ?_
        refine zs_cV_vW (rest := []) (k_X5_back hN _ _) dX11_undo_37 lv_X11_236 ok_X5_back (zz_rcv_o (sh_34 hN) rfl) (Nat.le_of_ble_eq_true rfl) rfl rfl (Nat.le_of_ble_eq_true rfl) (fun m1 => ?_)
        refine zs_aload_n dX11_undo_40 rfl 0 rfl ?_
        refine zs_iconst (v := (1 : Int32)) dX11_undo_41 ci_1 ?_
        refine zs_putI fl_X11_104 dX11_undo_42 (sh_0 hN) rfl ⟨rfl, rfl⟩ (fun m2 => ?_)
        refine zs_aload_n dX11_undo_45 rfl 0 rfl ?_
        refine zs_getR fl_X11_49 dX11_undo_46 (sh_0 hN) rfl ?_
        refine zs_getI fl_X11_233 dX11_undo_49 (sh_34 hN) rfl ?_
        exact zs_iret dX11_undo_52 rfl rfl rfl
      · refine zs_bipush (v := (-3 : Int32)) dX11_undo_22 cb_m3 ?_
        exact zs_iret dX11_undo_24 rfl rfl rfl
/-! X11_doAll: PillarDesk.doAll(LPillarDesk$Tray;LPillarDesk$Stand;)I -/
theorem dX11_doAll_0 : decode cX11_doAll 0 = .ok (.iconst 0, 1) := by decide +kernel
theorem dX11_doAll_1 : decode cX11_doAll 1 = .ok (.istore_n 3, 1) := by decide +kernel
theorem dX11_doAll_2 : decode cX11_doAll 2 = .ok (.iconst 0, 1) := by decide +kernel
theorem dX11_doAll_3 : decode cX11_doAll 3 = .ok (.istore 4, 2) := by decide +kernel
theorem dX11_doAll_5 : decode cX11_doAll 5 = .ok (.iload 4, 2) := by decide +kernel
theorem dX11_doAll_7 : decode cX11_doAll 7 = .ok (.aload_n 1, 1) := by decide +kernel
theorem dX11_doAll_8 : decode cX11_doAll 8 = .ok (.getfield 251, 3) := by decide +kernel
theorem dX11_doAll_11 : decode cX11_doAll 11 = .ok (.if_icmp .ge 33, 3) := by decide +kernel
theorem dX11_doAll_14 : decode cX11_doAll 14 = .ok (.aload_n 0, 1) := by decide +kernel
theorem dX11_doAll_15 : decode cX11_doAll 15 = .ok (.getfield 20, 3) := by decide +kernel
theorem dX11_doAll_18 : decode cX11_doAll 18 = .ok (.aload_n 2, 1) := by decide +kernel
theorem dX11_doAll_19 : decode cX11_doAll 19 = .ok (.aload_n 1, 1) := by decide +kernel
theorem dX11_doAll_20 : decode cX11_doAll 20 = .ok (.getfield 252, 3) := by decide +kernel
theorem dX11_doAll_23 : decode cX11_doAll 23 = .ok (.iload 4, 2) := by decide +kernel
theorem dX11_doAll_25 : decode cX11_doAll 25 = .ok (.laload, 1) := by decide +kernel
theorem dX11_doAll_26 : decode cX11_doAll 26 = .ok (.invokevirtual 256, 3) := by decide +kernel
theorem dX11_doAll_29 : decode cX11_doAll 29 = .ok (.ifCond .eq 6, 3) := by decide +kernel
theorem dX11_doAll_32 : decode cX11_doAll 32 = .ok (.goto 12, 3) := by decide +kernel
theorem dX11_doAll_35 : decode cX11_doAll 35 = .ok (.iinc 3 1, 3) := by decide +kernel
theorem dX11_doAll_38 : decode cX11_doAll 38 = .ok (.iinc 4 1, 3) := by decide +kernel
theorem dX11_doAll_41 : decode cX11_doAll 41 = .ok (.goto (-36), 3) := by decide +kernel
theorem dX11_doAll_44 : decode cX11_doAll 44 = .ok (.iload_n 3, 1) := by decide +kernel
theorem dX11_doAll_45 : decode cX11_doAll 45 = .ok (.ireturn, 1) := by decide +kernel
def f_X11_doAll_5 (o0 : Nat) (o1 : Nat)  : Nat → Int32 → Int32 → zz_Mem → Option (Int32 × zz_Mem)
  | 0, _, _, _ => none
  | n + 1, v3, v4, m =>
  if (m.1 o0 2) ≤ v4 then (
  some (v3, m))
  else (
  zz_ix v4 40 <|
  zz_bnd (f_X6_doDeed o1 (m.2.1 (o0 + 1) v4.toNatClampNeg) m) fun r1 m2 =>
  if r1 = 0 then (
  zz_letI (v3 + (1 : Int32)) fun x3 =>
  zz_letI (v4 + (1 : Int32)) fun x4 =>
  f_X11_doAll_5 o0 o1 n x3 x4 m2)
  else (
  some (v3, m2)))
theorem t_X11_doAll_5 {l : Launch} {G : zz_G} (hN : 107 ≤ zz_N G) {o0 : Nat} {o1 : Nat} (ho0 : zz_isTray G o0) (ho1 : zz_isStand G o1)  : ∀ (n : Nat) (v3 : Int32) (v4 : Int32) (m : zz_Mem), zz_Sim zz_sh l G mX11_doAll 3 zz_vI zz_m2 (f_X11_doAll_5 o0 o1 n v3 v4 m) 5 [(0, .ref (zz_a G 0)), (1, .ref (zz_a G o0)), (2, .ref (zz_a G o1)), (3, .int v3), (4, .int v4)] [] m := by
  intro n
  induction n with
  | zero => intro _ _ _; exact zs_none
  | succ n ih =>
    intro v3 v4 m
    rw [f_X11_doAll_5]
    refine zs_iload dX11_doAll_5 4 rfl ?_
    refine zs_aload_n dX11_doAll_7 rfl 1 rfl ?_
    refine zs_getI fl_X11_251 dX11_doAll_8 (ho0).1 rfl ?_
    refine zs_icmp_ge (tgt := 44) dX11_doAll_11 (by decide) ?_ ?_
    · refine zs_iload_n dX11_doAll_44 rfl 3 rfl ?_
      exact zs_iret dX11_doAll_45 rfl rfl rfl
    · refine zs_aload_n dX11_doAll_14 rfl 0 rfl ?_
      refine zs_getR fl_X11_20 dX11_doAll_15 (sh_0 hN) rfl ?_
      refine zs_aload_n dX11_doAll_18 rfl 2 rfl ?_
      refine zs_aload_n dX11_doAll_19 rfl 1 rfl ?_
      refine zs_getR fl_X11_252 dX11_doAll_20 (ho0).1 rfl ?_
      refine zs_iload dX11_doAll_23 4 rfl ?_
      refine zs_laldG dX11_doAll_25 (ho0).2 ?_
      refine zs_cV_iW (rest := []) (k_X6_doDeed hN (ho1) _ _) dX11_doAll_26 lv_X11_256 ok_X6_doDeed (zz_rcv_o (sh_2 hN) rfl) (Nat.le_of_ble_eq_true rfl) rfl rfl (Nat.le_of_ble_eq_true rfl) (fun r1 m2 => ?_)
      refine zs_if_eq (tgt := 35) dX11_doAll_29 (by decide) ?_ ?_
      · refine zs_iinc (fun y => [(3, .int y), (0, .ref (zz_a G 0)), (1, .ref (zz_a G o0)), (2, .ref (zz_a G o1)), (4, .int v4)]) dX11_doAll_35 3 rfl ci_1 (Nat.le_of_ble_eq_true rfl) (fun _ => rfl) (fun x3 => ?_)
        refine zs_iinc (fun y => [(4, .int y), (3, .int x3), (0, .ref (zz_a G 0)), (1, .ref (zz_a G o0)), (2, .ref (zz_a G o1))]) dX11_doAll_38 4 rfl ci_1 (Nat.le_of_ble_eq_true rfl) (fun _ => rfl) (fun x4 => ?_)
        refine zs_goto (tgt := 5) dX11_doAll_41 (by decide) ?_
        refine zs_sub [2, 3, 4, 1, 0] rfl ?_
        exact ih _ _ _
      · refine zs_goto (tgt := 44) dX11_doAll_32 (by decide) ?_
        refine zs_iload_n dX11_doAll_44 rfl 3 rfl ?_
        exact zs_iret dX11_doAll_45 rfl rfl rfl
def f_X11_doAll (o0 : Nat) (o1 : Nat)  (m : zz_Mem) : Option (Int32 × zz_Mem) :=
  f_X11_doAll_5 o0 o1 zz_fuel (0 : Int32) (0 : Int32) m
theorem k_X11_doAll {l : Launch} {G : zz_G} (hN : 107 ≤ zz_N G) {o0 : Nat} {o1 : Nat} (ho0 : zz_isTray G o0) (ho1 : zz_isStand G o1) : ∀ (m : zz_Mem), zz_Con zz_sh l G mX11_doAll 3 [.ref (zz_a G 0), .ref (zz_a G o0), .ref (zz_a G o1)] zz_vI zz_m2 (f_X11_doAll o0 o1 m) m := by
  intro m
  refine zz_con (lv := [(0, .ref (zz_a G 0)), (1, .ref (zz_a G o0)), (2, .ref (zz_a G o1))]) (by decide +kernel) (Nat.le_of_ble_eq_true rfl) rfl ?_
  unfold f_X11_doAll
  refine zs_iconst (v := (0 : Int32)) dX11_doAll_0 ci_0 ?_
  refine zs_istore_n [(3, .int (0 : Int32)), (0, .ref (zz_a G 0)), (1, .ref (zz_a G o0)), (2, .ref (zz_a G o1))] dX11_doAll_1 rfl (Nat.le_of_ble_eq_true rfl) rfl ?_
  refine zs_iconst (v := (0 : Int32)) dX11_doAll_2 ci_0 ?_
  refine zs_istore [(4, .int (0 : Int32)), (3, .int (0 : Int32)), (0, .ref (zz_a G 0)), (1, .ref (zz_a G o0)), (2, .ref (zz_a G o1))] dX11_doAll_3 (Nat.le_of_ble_eq_true rfl) rfl ?_
  refine zs_sub [2, 3, 4, 1, 0] rfl ?_
  exact t_X11_doAll_5 hN ho0 ho1 zz_fuel _ _ _
/-! X11_lastFactorTried: PillarDesk.lastFactorTried()I -/
theorem dX11_lastFactorTried_0 : decode cX11_lastFactorTried 0 = .ok (.aload_n 0, 1) := by decide +kernel
theorem dX11_lastFactorTried_1 : decode cX11_lastFactorTried 1 = .ok (.getfield 79, 3) := by decide +kernel
theorem dX11_lastFactorTried_4 : decode cX11_lastFactorTried 4 = .ok (.aload_n 0, 1) := by decide +kernel
theorem dX11_lastFactorTried_5 : decode cX11_lastFactorTried 5 = .ok (.getfield 60, 3) := by decide +kernel
theorem dX11_lastFactorTried_8 : decode cX11_lastFactorTried 8 = .ok (.aload_n 0, 1) := by decide +kernel
theorem dX11_lastFactorTried_9 : decode cX11_lastFactorTried 9 = .ok (.getfield 60, 3) := by decide +kernel
theorem dX11_lastFactorTried_12 : decode cX11_lastFactorTried 12 = .ok (.getfield 224, 3) := by decide +kernel
theorem dX11_lastFactorTried_15 : decode cX11_lastFactorTried 15 = .ok (.invokevirtual 268, 3) := by decide +kernel
theorem dX11_lastFactorTried_18 : decode cX11_lastFactorTried 18 = .ok (.aload_n 0, 1) := by decide +kernel
theorem dX11_lastFactorTried_19 : decode cX11_lastFactorTried 19 = .ok (.getfield 79, 3) := by decide +kernel
theorem dX11_lastFactorTried_22 : decode cX11_lastFactorTried 22 = .ok (.iconst 1, 1) := by decide +kernel
theorem dX11_lastFactorTried_23 : decode cX11_lastFactorTried 23 = .ok (.invokevirtual 272, 3) := by decide +kernel
theorem dX11_lastFactorTried_26 : decode cX11_lastFactorTried 26 = .ok (.aload_n 0, 1) := by decide +kernel
theorem dX11_lastFactorTried_27 : decode cX11_lastFactorTried 27 = .ok (.getfield 79, 3) := by decide +kernel
theorem dX11_lastFactorTried_30 : decode cX11_lastFactorTried 30 = .ok (.invokevirtual 275, 3) := by decide +kernel
theorem dX11_lastFactorTried_33 : decode cX11_lastFactorTried 33 = .ok (.sipush 1000, 3) := by decide +kernel
theorem dX11_lastFactorTried_36 : decode cX11_lastFactorTried 36 = .ok (.idiv, 1) := by decide +kernel
theorem dX11_lastFactorTried_37 : decode cX11_lastFactorTried 37 = .ok (.ireturn, 1) := by decide +kernel
def f_X11_lastFactorTried   (m : zz_Mem) : Option (Int32 × zz_Mem) :=
  zz_bndR (f_X1_countRates 88 69 (m.1 69 2) m) fun m1 =>
  zz_bndR (f_X1_solve 88 (1 : Int32) m1) fun m2 =>
  zz_bndR (f_X1_lastFactor 88 m2) fun r3 =>
  some (r3 / (1000 : Int32), m2)
theorem k_X11_lastFactorTried {l : Launch} {G : zz_G} (hN : 107 ≤ zz_N G) : ∀ (m : zz_Mem), zz_Con zz_sh l G mX11_lastFactorTried 5 [.ref (zz_a G 0)] zz_vI zz_m2 (f_X11_lastFactorTried m) m := by
  intro m
  refine zz_con (lv := [(0, .ref (zz_a G 0))]) (by decide +kernel) (Nat.le_of_ble_eq_true rfl) rfl ?_
  unfold f_X11_lastFactorTried
  refine zs_aload_n dX11_lastFactorTried_0 rfl 0 rfl ?_
  refine zs_getR fl_X11_79 dX11_lastFactorTried_1 (sh_0 hN) rfl ?_
  refine zs_aload_n dX11_lastFactorTried_4 rfl 0 rfl ?_
  refine zs_getR fl_X11_60 dX11_lastFactorTried_5 (sh_0 hN) rfl ?_
  refine zs_aload_n dX11_lastFactorTried_8 rfl 0 rfl ?_
  refine zs_getR fl_X11_60 dX11_lastFactorTried_9 (sh_0 hN) rfl ?_
  refine zs_getI fl_X11_224 dX11_lastFactorTried_12 (sh_69 hN) rfl ?_
  refine zs_cV_vW (rest := []) (k_X1_countRates hN ((isCurve_88 hN)) ((isStand_69 hN)) _ _) dX11_lastFactorTried_15 lv_X11_268 ok_X1_countRates (zz_rcv_o (sh_88 hN) rfl) (Nat.le_of_ble_eq_true rfl) rfl rfl (Nat.le_of_ble_eq_true rfl) (fun m1 => ?_)
  refine zs_aload_n dX11_lastFactorTried_18 rfl 0 rfl ?_
  refine zs_getR fl_X11_79 dX11_lastFactorTried_19 (sh_0 hN) rfl ?_
  refine zs_iconst (v := (1 : Int32)) dX11_lastFactorTried_22 ci_1 ?_
  refine zs_cV_vW (rest := []) (k_X1_solve hN ((isCurve_88 hN)) _ _) dX11_lastFactorTried_23 lv_X11_272 ok_X1_solve (zz_rcv_o (sh_88 hN) rfl) (Nat.le_of_ble_eq_true rfl) rfl rfl (Nat.le_of_ble_eq_true rfl) (fun m2 => ?_)
  refine zs_aload_n dX11_lastFactorTried_26 rfl 0 rfl ?_
  refine zs_getR fl_X11_79 dX11_lastFactorTried_27 (sh_0 hN) rfl ?_
  refine zs_cV_iR (rest := []) (k_X1_lastFactor hN ((isCurve_88 hN))  _) dX11_lastFactorTried_30 lv_X11_275 ok_X1_lastFactor (zz_rcv_o (sh_88 hN) rfl) (Nat.le_of_ble_eq_true rfl) rfl rfl (Nat.le_of_ble_eq_true rfl) (fun r3 => ?_)
  refine zs_sipush (v := (1000 : Int32)) dX11_lastFactorTried_33 cs_1000 ?_
  refine zs_idiv dX11_lastFactorTried_36 (by decide) ?_
  exact zs_iret dX11_lastFactorTried_37 rfl rfl rfl
/-! X11_judge: PillarDesk.judge(II)I -/
theorem dX11_judge_0 : decode cX11_judge 0 = .ok (.aload_n 0, 1) := by decide +kernel
theorem dX11_judge_1 : decode cX11_judge 1 = .ok (.iload_n 1, 1) := by decide +kernel
theorem dX11_judge_2 : decode cX11_judge 2 = .ok (.invokevirtual 240, 3) := by decide +kernel
theorem dX11_judge_5 : decode cX11_judge 5 = .ok (.ifCond .ne 12, 3) := by decide +kernel
theorem dX11_judge_8 : decode cX11_judge 8 = .ok (.iload_n 2, 1) := by decide +kernel
theorem dX11_judge_9 : decode cX11_judge 9 = .ok (.ifCond .lt 8, 3) := by decide +kernel
theorem dX11_judge_12 : decode cX11_judge 12 = .ok (.iload_n 2, 1) := by decide +kernel
theorem dX11_judge_13 : decode cX11_judge 13 = .ok (.iconst 3, 1) := by decide +kernel
theorem dX11_judge_14 : decode cX11_judge 14 = .ok (.if_icmp .le 6, 3) := by decide +kernel
theorem dX11_judge_17 : decode cX11_judge 17 = .ok (.bipush (-2), 2) := by decide +kernel
theorem dX11_judge_19 : decode cX11_judge 19 = .ok (.ireturn, 1) := by decide +kernel
theorem dX11_judge_20 : decode cX11_judge 20 = .ok (.aload_n 0, 1) := by decide +kernel
theorem dX11_judge_21 : decode cX11_judge 21 = .ok (.getfield 42, 3) := by decide +kernel
theorem dX11_judge_24 : decode cX11_judge 24 = .ok (.iload_n 1, 1) := by decide +kernel
theorem dX11_judge_25 : decode cX11_judge 25 = .ok (.aaload, 1) := by decide +kernel
theorem dX11_judge_26 : decode cX11_judge 26 = .ok (.invokevirtual 243, 3) := by decide +kernel
theorem dX11_judge_29 : decode cX11_judge 29 = .ok (.ifCond .eq 6, 3) := by decide +kernel
theorem dX11_judge_32 : decode cX11_judge 32 = .ok (.bipush (-6), 2) := by decide +kernel
theorem dX11_judge_34 : decode cX11_judge 34 = .ok (.ireturn, 1) := by decide +kernel
theorem dX11_judge_35 : decode cX11_judge 35 = .ok (.aload_n 0, 1) := by decide +kernel
theorem dX11_judge_36 : decode cX11_judge 36 = .ok (.getfield 60, 3) := by decide +kernel
theorem dX11_judge_39 : decode cX11_judge 39 = .ok (.aload_n 0, 1) := by decide +kernel
theorem dX11_judge_40 : decode cX11_judge 40 = .ok (.getfield 20, 3) := by decide +kernel
theorem dX11_judge_43 : decode cX11_judge 43 = .ok (.getfield 160, 3) := by decide +kernel
theorem dX11_judge_46 : decode cX11_judge 46 = .ok (.invokevirtual 210, 3) := by decide +kernel
theorem dX11_judge_49 : decode cX11_judge 49 = .ok (.aload_n 0, 1) := by decide +kernel
theorem dX11_judge_50 : decode cX11_judge 50 = .ok (.aload_n 0, 1) := by decide +kernel
theorem dX11_judge_51 : decode cX11_judge 51 = .ok (.getfield 42, 3) := by decide +kernel
theorem dX11_judge_54 : decode cX11_judge 54 = .ok (.iload_n 1, 1) := by decide +kernel
theorem dX11_judge_55 : decode cX11_judge 55 = .ok (.aaload, 1) := by decide +kernel
theorem dX11_judge_56 : decode cX11_judge 56 = .ok (.aload_n 0, 1) := by decide +kernel
theorem dX11_judge_57 : decode cX11_judge 57 = .ok (.getfield 60, 3) := by decide +kernel
theorem dX11_judge_60 : decode cX11_judge 60 = .ok (.invokevirtual 247, 3) := by decide +kernel
theorem dX11_judge_63 : decode cX11_judge 63 = .ok (.istore_n 3, 1) := by decide +kernel
theorem dX11_judge_64 : decode cX11_judge 64 = .ok (.iload_n 2, 1) := by decide +kernel
theorem dX11_judge_65 : decode cX11_judge 65 = .ok (.tableswitch 98 0 2 #[27, 46, 86], 27) := by decide +kernel
theorem dX11_judge_92 : decode cX11_judge 92 = .ok (.iload_n 3, 1) := by decide +kernel
theorem dX11_judge_93 : decode cX11_judge 93 = .ok (.aload_n 0, 1) := by decide +kernel
theorem dX11_judge_94 : decode cX11_judge 94 = .ok (.getfield 42, 3) := by decide +kernel
theorem dX11_judge_97 : decode cX11_judge 97 = .ok (.iload_n 1, 1) := by decide +kernel
theorem dX11_judge_98 : decode cX11_judge 98 = .ok (.aaload, 1) := by decide +kernel
theorem dX11_judge_99 : decode cX11_judge 99 = .ok (.getfield 251, 3) := by decide +kernel
theorem dX11_judge_102 : decode cX11_judge 102 = .ok (.if_icmp .ge 7, 3) := by decide +kernel
theorem dX11_judge_105 : decode cX11_judge 105 = .ok (.iload_n 3, 1) := by decide +kernel
theorem dX11_judge_106 : decode cX11_judge 106 = .ok (.goto 4, 3) := by decide +kernel
theorem dX11_judge_109 : decode cX11_judge 109 = .ok (.iconst (-1), 1) := by decide +kernel
theorem dX11_judge_110 : decode cX11_judge 110 = .ok (.ireturn, 1) := by decide +kernel
theorem dX11_judge_111 : decode cX11_judge 111 = .ok (.iload_n 3, 1) := by decide +kernel
theorem dX11_judge_112 : decode cX11_judge 112 = .ok (.aload_n 0, 1) := by decide +kernel
theorem dX11_judge_113 : decode cX11_judge 113 = .ok (.getfield 42, 3) := by decide +kernel
theorem dX11_judge_116 : decode cX11_judge 116 = .ok (.iload_n 1, 1) := by decide +kernel
theorem dX11_judge_117 : decode cX11_judge 117 = .ok (.aaload, 1) := by decide +kernel
theorem dX11_judge_118 : decode cX11_judge 118 = .ok (.getfield 251, 3) := by decide +kernel
theorem dX11_judge_121 : decode cX11_judge 121 = .ok (.if_icmp .ge 28, 3) := by decide +kernel
theorem dX11_judge_124 : decode cX11_judge 124 = .ok (.aload_n 0, 1) := by decide +kernel
theorem dX11_judge_125 : decode cX11_judge 125 = .ok (.getfield 20, 3) := by decide +kernel
theorem dX11_judge_128 : decode cX11_judge 128 = .ok (.aload_n 0, 1) := by decide +kernel
theorem dX11_judge_129 : decode cX11_judge 129 = .ok (.getfield 60, 3) := by decide +kernel
theorem dX11_judge_132 : decode cX11_judge 132 = .ok (.aload_n 0, 1) := by decide +kernel
theorem dX11_judge_133 : decode cX11_judge 133 = .ok (.getfield 42, 3) := by decide +kernel
theorem dX11_judge_136 : decode cX11_judge 136 = .ok (.iload_n 1, 1) := by decide +kernel
theorem dX11_judge_137 : decode cX11_judge 137 = .ok (.aaload, 1) := by decide +kernel
theorem dX11_judge_138 : decode cX11_judge 138 = .ok (.getfield 252, 3) := by decide +kernel
theorem dX11_judge_141 : decode cX11_judge 141 = .ok (.iload_n 3, 1) := by decide +kernel
theorem dX11_judge_142 : decode cX11_judge 142 = .ok (.laload, 1) := by decide +kernel
theorem dX11_judge_143 : decode cX11_judge 143 = .ok (.invokevirtual 256, 3) := by decide +kernel
theorem dX11_judge_146 : decode cX11_judge 146 = .ok (.goto 4, 3) := by decide +kernel
theorem dX11_judge_149 : decode cX11_judge 149 = .ok (.iconst 0, 1) := by decide +kernel
theorem dX11_judge_150 : decode cX11_judge 150 = .ok (.ireturn, 1) := by decide +kernel
theorem dX11_judge_151 : decode cX11_judge 151 = .ok (.aload_n 0, 1) := by decide +kernel
theorem dX11_judge_152 : decode cX11_judge 152 = .ok (.getfield 20, 3) := by decide +kernel
theorem dX11_judge_155 : decode cX11_judge 155 = .ok (.aload_n 0, 1) := by decide +kernel
theorem dX11_judge_156 : decode cX11_judge 156 = .ok (.getfield 60, 3) := by decide +kernel
theorem dX11_judge_159 : decode cX11_judge 159 = .ok (.invokevirtual 260, 3) := by decide +kernel
theorem dX11_judge_162 : decode cX11_judge 162 = .ok (.ireturn, 1) := by decide +kernel
theorem dX11_judge_163 : decode cX11_judge 163 = .ok (.aload_n 0, 1) := by decide +kernel
theorem dX11_judge_164 : decode cX11_judge 164 = .ok (.invokevirtual 264, 3) := by decide +kernel
theorem dX11_judge_167 : decode cX11_judge 167 = .ok (.ireturn, 1) := by decide +kernel
def f_X11_judge  (p1 : Int32) (p2 : Int32) (m : zz_Mem) : Option (Int32 × zz_Mem) :=
  zz_bndR (f_X11_noTray m p1) fun r1 =>
  if r1 = 0 then (
  if p2 < 0 then (
  some ((-2 : Int32), m))
  else (
  if p2 ≤ (3 : Int32) then (
  zz_ix p1 4 <|
  zz_bndR (f_X10_isMissing (99 + 2 * p1.toNatClampNeg) m) fun r3 =>
  if r3 = 0 then (
  zz_bndR (f_X9_copyFrom 69 13 m) fun m4 =>
  zz_ix p1 4 <|
  zz_bnd (f_X11_doAll (99 + 2 * p1.toNatClampNeg) 69 m4) fun r6 m7 =>
  if p2 = (0 : Int32) then (
  zz_ix p1 4 <|
  if (m7.1 (99 + 2 * p1.toNatClampNeg) 2) ≤ r6 then (
  some ((-1 : Int32), m7))
  else (
  some (r6, m7)))
  else if p2 = (1 : Int32) then (
  zz_ix p1 4 <|
  if (m7.1 (99 + 2 * p1.toNatClampNeg) 2) ≤ r6 then (
  some ((0 : Int32), m7))
  else (
  zz_ix p1 4 <|
  zz_ix r6 40 <|
  zz_bnd (f_X6_doDeed 69 (m7.2.1 ((99 + 2 * p1.toNatClampNeg) + 1) r6.toNatClampNeg) m7) fun r13 m14 =>
  some (r13, m14)))
  else if p2 = (2 : Int32) then (
  zz_bndR (f_X6_rateSum 69 m7) fun r16 =>
  some (r16, m7))
  else (
  zz_bnd (f_X11_lastFactorTried m7) fun r17 m18 =>
  some (r17, m18)))
  else (
  some ((-6 : Int32), m)))
  else (
  some ((-2 : Int32), m))))
  else (
  some ((-2 : Int32), m))
theorem k_X11_judge {l : Launch} {G : zz_G} (hN : 107 ≤ zz_N G) : ∀ (p1 : Int32) (p2 : Int32) (m : zz_Mem), zz_Con zz_sh l G mX11_judge 6 [.ref (zz_a G 0), .int p1, .int p2] zz_vI zz_m2 (f_X11_judge p1 p2 m) m := by
  intro p1 p2 m
  refine zz_con (lv := [(0, .ref (zz_a G 0)), (1, .int p1), (2, .int p2)]) (by decide +kernel) (Nat.le_of_ble_eq_true rfl) rfl ?_
  unfold f_X11_judge
  refine zs_aload_n dX11_judge_0 rfl 0 rfl ?_
  refine zs_iload_n dX11_judge_1 rfl 1 rfl ?_
  refine zs_cV_iR (rest := []) (k_X11_noTray hN _ _) dX11_judge_2 lv_X11_240 ok_X11_noTray (zz_rcv_o (sh_0 hN) rfl) (Nat.le_of_ble_eq_true rfl) rfl rfl (Nat.le_of_ble_eq_true rfl) (fun r1 => ?_)
  refine zs_if_ne (tgt := 17) dX11_judge_5 (by decide) ?_ ?_
  · refine zs_bipush (v := (-2 : Int32)) dX11_judge_17 cb_m2 ?_
    exact zs_iret dX11_judge_19 rfl rfl rfl
  · refine zs_iload_n dX11_judge_8 rfl 2 rfl ?_
    refine zs_if_lt (tgt := 17) dX11_judge_9 (by decide) ?_ ?_
    · refine zs_bipush (v := (-2 : Int32)) dX11_judge_17 cb_m2 ?_
      exact zs_iret dX11_judge_19 rfl rfl rfl
    · refine zs_iload_n dX11_judge_12 rfl 2 rfl ?_
      refine zs_iconst (v := (3 : Int32)) dX11_judge_13 ci_3 ?_
      refine zs_icmp_le (tgt := 20) dX11_judge_14 (by decide) ?_ ?_
      · refine zs_aload_n dX11_judge_20 rfl 0 rfl ?_
        refine zs_getR fl_X11_42 dX11_judge_21 (sh_0 hN) rfl ?_
        refine zs_iload_n dX11_judge_24 rfl 1 rfl ?_
        refine zs_aaldTray dX11_judge_25 (sh_33 hN) (fun h2 => ?_)
        refine zs_cV_iR (rest := []) (k_X10_isMissing hN (isTrays hN h2)  _) dX11_judge_26 lv_X11_243 ok_X10_isMissing (zz_rcv_o (isTrays hN h2).1 rfl) (Nat.le_of_ble_eq_true rfl) rfl rfl (Nat.le_of_ble_eq_true rfl) (fun r3 => ?_)
        refine zs_if_eq (tgt := 35) dX11_judge_29 (by decide) ?_ ?_
        · refine zs_aload_n dX11_judge_35 rfl 0 rfl ?_
          refine zs_getR fl_X11_60 dX11_judge_36 (sh_0 hN) rfl ?_
          refine zs_aload_n dX11_judge_39 rfl 0 rfl ?_
          refine zs_getR fl_X11_20 dX11_judge_40 (sh_0 hN) rfl ?_
          refine zs_getR fl_X11_160 dX11_judge_43 (sh_2 hN) rfl ?_
          refine zs_cV_vW (rest := []) (k_X9_copyFrom hN ((isStand_69 hN)) ((isStand_13 hN))  _) dX11_judge_46 lv_X11_210 ok_X9_copyFrom (zz_rcv_o (sh_69 hN) rfl) (Nat.le_of_ble_eq_true rfl) rfl rfl (Nat.le_of_ble_eq_true rfl) (fun m4 => ?_)
          refine zs_aload_n dX11_judge_49 rfl 0 rfl ?_
          refine zs_aload_n dX11_judge_50 rfl 0 rfl ?_
          refine zs_getR fl_X11_42 dX11_judge_51 (sh_0 hN) rfl ?_
          refine zs_iload_n dX11_judge_54 rfl 1 rfl ?_
          refine zs_aaldTray dX11_judge_55 (sh_33 hN) (fun h5 => ?_)
          refine zs_aload_n dX11_judge_56 rfl 0 rfl ?_
          refine zs_getR fl_X11_60 dX11_judge_57 (sh_0 hN) rfl ?_
          refine zs_cV_iW (rest := []) (k_X11_doAll hN (isTrays hN h5) ((isStand_69 hN))  _) dX11_judge_60 lv_X11_247 ok_X11_doAll (zz_rcv_o (sh_0 hN) rfl) (Nat.le_of_ble_eq_true rfl) rfl rfl (Nat.le_of_ble_eq_true rfl) (fun r6 m7 => ?_)
          refine zs_istore_n [(3, .int r6), (0, .ref (zz_a G 0)), (1, .int p1), (2, .int p2)] dX11_judge_63 rfl (Nat.le_of_ble_eq_true rfl) rfl ?_
          refine zs_iload_n dX11_judge_64 rfl 3 rfl ?_
          refine zs_ite (fun h8 => ?_) (fun h8 => ?_)
          · refine zs_tswI (tgt := 92) h8 dX11_judge_65 (by decide) (by decide) rfl (by decide) ?_
            refine zs_iload_n dX11_judge_92 rfl 0 rfl ?_
            refine zs_aload_n dX11_judge_93 rfl 1 rfl ?_
            refine zs_getR fl_X11_42 dX11_judge_94 (sh_0 hN) rfl ?_
            refine zs_iload_n dX11_judge_97 rfl 2 rfl ?_
            refine zs_aaldTray dX11_judge_98 (sh_33 hN) (fun h9 => ?_)
            refine zs_getI fl_X11_251 dX11_judge_99 (isTrays hN h9).1 rfl ?_
            refine zs_icmp_ge (tgt := 109) dX11_judge_102 (by decide) ?_ ?_
            · refine zs_iconst (v := (-1 : Int32)) dX11_judge_109 ci_m1 ?_
              exact zs_iret dX11_judge_110 rfl rfl rfl
            · refine zs_iload_n dX11_judge_105 rfl 0 rfl ?_
              refine zs_goto (tgt := 110) dX11_judge_106 (by decide) ?_
              exact zs_iret dX11_judge_110 rfl rfl rfl
          refine zs_ite (fun h10 => ?_) (fun h10 => ?_)
          · refine zs_tswI (tgt := 111) h10 dX11_judge_65 (by decide) (by decide) rfl (by decide) ?_
            refine zs_iload_n dX11_judge_111 rfl 0 rfl ?_
            refine zs_aload_n dX11_judge_112 rfl 1 rfl ?_
            refine zs_getR fl_X11_42 dX11_judge_113 (sh_0 hN) rfl ?_
            refine zs_iload_n dX11_judge_116 rfl 2 rfl ?_
            refine zs_aaldTray dX11_judge_117 (sh_33 hN) (fun h11 => ?_)
            refine zs_getI fl_X11_251 dX11_judge_118 (isTrays hN h11).1 rfl ?_
            refine zs_icmp_ge (tgt := 149) dX11_judge_121 (by decide) ?_ ?_
            · refine zs_iconst (v := (0 : Int32)) dX11_judge_149 ci_0 ?_
              exact zs_iret dX11_judge_150 rfl rfl rfl
            · refine zs_aload_n dX11_judge_124 rfl 1 rfl ?_
              refine zs_getR fl_X11_20 dX11_judge_125 (sh_0 hN) rfl ?_
              refine zs_aload_n dX11_judge_128 rfl 1 rfl ?_
              refine zs_getR fl_X11_60 dX11_judge_129 (sh_0 hN) rfl ?_
              refine zs_aload_n dX11_judge_132 rfl 1 rfl ?_
              refine zs_getR fl_X11_42 dX11_judge_133 (sh_0 hN) rfl ?_
              refine zs_iload_n dX11_judge_136 rfl 2 rfl ?_
              refine zs_aaldTray dX11_judge_137 (sh_33 hN) (fun h12 => ?_)
              refine zs_getR fl_X11_252 dX11_judge_138 (isTrays hN h12).1 rfl ?_
              refine zs_iload_n dX11_judge_141 rfl 0 rfl ?_
              refine zs_laldG dX11_judge_142 (isTrays hN h12).2 ?_
              refine zs_cV_iW (rest := []) (k_X6_doDeed hN ((isStand_69 hN)) _ _) dX11_judge_143 lv_X11_256 ok_X6_doDeed (zz_rcv_o (sh_2 hN) rfl) (Nat.le_of_ble_eq_true rfl) rfl rfl (Nat.le_of_ble_eq_true rfl) (fun r13 m14 => ?_)
              refine zs_goto (tgt := 150) dX11_judge_146 (by decide) ?_
              exact zs_iret dX11_judge_150 rfl rfl rfl
          refine zs_ite (fun h15 => ?_) (fun h15 => ?_)
          · refine zs_tswI (tgt := 151) h15 dX11_judge_65 (by decide) (by decide) rfl (by decide) ?_
            refine zs_aload_n dX11_judge_151 rfl 1 rfl ?_
            refine zs_getR fl_X11_20 dX11_judge_152 (sh_0 hN) rfl ?_
            refine zs_aload_n dX11_judge_155 rfl 1 rfl ?_
            refine zs_getR fl_X11_60 dX11_judge_156 (sh_0 hN) rfl ?_
            refine zs_cV_iR (rest := []) (k_X6_rateSum hN ((isStand_69 hN))  _) dX11_judge_159 lv_X11_260 ok_X6_rateSum (zz_rcv_o (sh_2 hN) rfl) (Nat.le_of_ble_eq_true rfl) rfl rfl (Nat.le_of_ble_eq_true rfl) (fun r16 => ?_)
            exact zs_iret dX11_judge_162 rfl rfl rfl
          refine zs_tswO (tgt := 163) dX11_judge_65 (by have eh8 := lv_neT h8 (a := 0) rfl; have eh10 := lv_neT h10 (a := 1) rfl; have eh15 := lv_neT h15 (a := 2) rfl; omega) (by decide) ?_
          refine zs_aload_n dX11_judge_163 rfl 1 rfl ?_
          refine zs_cV_iW (rest := []) (k_X11_lastFactorTried hN  _) dX11_judge_164 lv_X11_264 ok_X11_lastFactorTried (zz_rcv_o (sh_0 hN) rfl) (Nat.le_of_ble_eq_true rfl) rfl rfl (Nat.le_of_ble_eq_true rfl) (fun r17 m18 => ?_)
          exact zs_iret dX11_judge_167 rfl rfl rfl
        · refine zs_bipush (v := (-6 : Int32)) dX11_judge_32 cb_m6 ?_
          exact zs_iret dX11_judge_34 rfl rfl rfl
      · refine zs_bipush (v := (-2 : Int32)) dX11_judge_17 cb_m2 ?_
        exact zs_iret dX11_judge_19 rfl rfl rfl
/-! X11_perform: PillarDesk.perform(I)I -/
theorem dX11_perform_0 : decode cX11_perform 0 = .ok (.aload_n 0, 1) := by decide +kernel
theorem dX11_perform_1 : decode cX11_perform 1 = .ok (.iload_n 1, 1) := by decide +kernel
theorem dX11_perform_2 : decode cX11_perform 2 = .ok (.invokevirtual 240, 3) := by decide +kernel
theorem dX11_perform_5 : decode cX11_perform 5 = .ok (.ifCond .eq 6, 3) := by decide +kernel
theorem dX11_perform_8 : decode cX11_perform 8 = .ok (.bipush (-2), 2) := by decide +kernel
theorem dX11_perform_10 : decode cX11_perform 10 = .ok (.ireturn, 1) := by decide +kernel
theorem dX11_perform_11 : decode cX11_perform 11 = .ok (.aload_n 0, 1) := by decide +kernel
theorem dX11_perform_12 : decode cX11_perform 12 = .ok (.getfield 42, 3) := by decide +kernel
theorem dX11_perform_15 : decode cX11_perform 15 = .ok (.iload_n 1, 1) := by decide +kernel
theorem dX11_perform_16 : decode cX11_perform 16 = .ok (.aaload, 1) := by decide +kernel
theorem dX11_perform_17 : decode cX11_perform 17 = .ok (.invokevirtual 243, 3) := by decide +kernel
theorem dX11_perform_20 : decode cX11_perform 20 = .ok (.ifCond .eq 6, 3) := by decide +kernel
theorem dX11_perform_23 : decode cX11_perform 23 = .ok (.bipush (-6), 2) := by decide +kernel
theorem dX11_perform_25 : decode cX11_perform 25 = .ok (.ireturn, 1) := by decide +kernel
theorem dX11_perform_26 : decode cX11_perform 26 = .ok (.aload_n 0, 1) := by decide +kernel
theorem dX11_perform_27 : decode cX11_perform 27 = .ok (.getfield 56, 3) := by decide +kernel
theorem dX11_perform_30 : decode cX11_perform 30 = .ok (.aload_n 0, 1) := by decide +kernel
theorem dX11_perform_31 : decode cX11_perform 31 = .ok (.getfield 20, 3) := by decide +kernel
theorem dX11_perform_34 : decode cX11_perform 34 = .ok (.getfield 160, 3) := by decide +kernel
theorem dX11_perform_37 : decode cX11_perform 37 = .ok (.invokevirtual 210, 3) := by decide +kernel
theorem dX11_perform_40 : decode cX11_perform 40 = .ok (.aload_n 0, 1) := by decide +kernel
theorem dX11_perform_41 : decode cX11_perform 41 = .ok (.aload_n 0, 1) := by decide +kernel
theorem dX11_perform_42 : decode cX11_perform 42 = .ok (.getfield 42, 3) := by decide +kernel
theorem dX11_perform_45 : decode cX11_perform 45 = .ok (.iload_n 1, 1) := by decide +kernel
theorem dX11_perform_46 : decode cX11_perform 46 = .ok (.aaload, 1) := by decide +kernel
theorem dX11_perform_47 : decode cX11_perform 47 = .ok (.aload_n 0, 1) := by decide +kernel
theorem dX11_perform_48 : decode cX11_perform 48 = .ok (.getfield 20, 3) := by decide +kernel
theorem dX11_perform_51 : decode cX11_perform 51 = .ok (.getfield 160, 3) := by decide +kernel
theorem dX11_perform_54 : decode cX11_perform 54 = .ok (.invokevirtual 247, 3) := by decide +kernel
theorem dX11_perform_57 : decode cX11_perform 57 = .ok (.istore_n 2, 1) := by decide +kernel
theorem dX11_perform_58 : decode cX11_perform 58 = .ok (.aload_n 0, 1) := by decide +kernel
theorem dX11_perform_59 : decode cX11_perform 59 = .ok (.iload_n 2, 1) := by decide +kernel
theorem dX11_perform_60 : decode cX11_perform 60 = .ok (.invokevirtual 217, 3) := by decide +kernel
theorem dX11_perform_63 : decode cX11_perform 63 = .ok (.iload_n 2, 1) := by decide +kernel
theorem dX11_perform_64 : decode cX11_perform 64 = .ok (.ireturn, 1) := by decide +kernel
def f_X11_perform  (p1 : Int32) (m : zz_Mem) : Option (Int32 × zz_Mem) :=
  zz_bndR (f_X11_noTray m p1) fun r1 =>
  if r1 = 0 then (
  zz_ix p1 4 <|
  zz_bndR (f_X10_isMissing (99 + 2 * p1.toNatClampNeg) m) fun r3 =>
  if r3 = 0 then (
  zz_bndR (f_X9_copyFrom 66 13 m) fun m4 =>
  zz_ix p1 4 <|
  zz_bnd (f_X11_doAll (99 + 2 * p1.toNatClampNeg) 13 m4) fun r6 m7 =>
  zz_bndR (f_X11_remember r6 m7) fun m8 =>
  some (r6, m8))
  else (
  some ((-6 : Int32), m)))
  else (
  some ((-2 : Int32), m))
theorem k_X11_perform {l : Launch} {G : zz_G} (hN : 107 ≤ zz_N G) : ∀ (p1 : Int32) (m : zz_Mem), zz_Con zz_sh l G mX11_perform 4 [.ref (zz_a G 0), .int p1] zz_vI zz_m2 (f_X11_perform p1 m) m := by
  intro p1 m
  refine zz_con (lv := [(0, .ref (zz_a G 0)), (1, .int p1)]) (by decide +kernel) (Nat.le_of_ble_eq_true rfl) rfl ?_
  unfold f_X11_perform
  refine zs_aload_n dX11_perform_0 rfl 0 rfl ?_
  refine zs_iload_n dX11_perform_1 rfl 1 rfl ?_
  refine zs_cV_iR (rest := []) (k_X11_noTray hN _ _) dX11_perform_2 lv_X11_240 ok_X11_noTray (zz_rcv_o (sh_0 hN) rfl) (Nat.le_of_ble_eq_true rfl) rfl rfl (Nat.le_of_ble_eq_true rfl) (fun r1 => ?_)
  refine zs_if_eq (tgt := 11) dX11_perform_5 (by decide) ?_ ?_
  · refine zs_aload_n dX11_perform_11 rfl 0 rfl ?_
    refine zs_getR fl_X11_42 dX11_perform_12 (sh_0 hN) rfl ?_
    refine zs_iload_n dX11_perform_15 rfl 1 rfl ?_
    refine zs_aaldTray dX11_perform_16 (sh_33 hN) (fun h2 => ?_)
    refine zs_cV_iR (rest := []) (k_X10_isMissing hN (isTrays hN h2)  _) dX11_perform_17 lv_X11_243 ok_X10_isMissing (zz_rcv_o (isTrays hN h2).1 rfl) (Nat.le_of_ble_eq_true rfl) rfl rfl (Nat.le_of_ble_eq_true rfl) (fun r3 => ?_)
    refine zs_if_eq (tgt := 26) dX11_perform_20 (by decide) ?_ ?_
    · refine zs_aload_n dX11_perform_26 rfl 0 rfl ?_
      refine zs_getR fl_X11_56 dX11_perform_27 (sh_0 hN) rfl ?_
      refine zs_aload_n dX11_perform_30 rfl 0 rfl ?_
      refine zs_getR fl_X11_20 dX11_perform_31 (sh_0 hN) rfl ?_
      refine zs_getR fl_X11_160 dX11_perform_34 (sh_2 hN) rfl ?_
      refine zs_cV_vW (rest := []) (k_X9_copyFrom hN ((isStand_66 hN)) ((isStand_13 hN))  _) dX11_perform_37 lv_X11_210 ok_X9_copyFrom (zz_rcv_o (sh_66 hN) rfl) (Nat.le_of_ble_eq_true rfl) rfl rfl (Nat.le_of_ble_eq_true rfl) (fun m4 => ?_)
      refine zs_aload_n dX11_perform_40 rfl 0 rfl ?_
      refine zs_aload_n dX11_perform_41 rfl 0 rfl ?_
      refine zs_getR fl_X11_42 dX11_perform_42 (sh_0 hN) rfl ?_
      refine zs_iload_n dX11_perform_45 rfl 1 rfl ?_
      refine zs_aaldTray dX11_perform_46 (sh_33 hN) (fun h5 => ?_)
      refine zs_aload_n dX11_perform_47 rfl 0 rfl ?_
      refine zs_getR fl_X11_20 dX11_perform_48 (sh_0 hN) rfl ?_
      refine zs_getR fl_X11_160 dX11_perform_51 (sh_2 hN) rfl ?_
      refine zs_cV_iW (rest := []) (k_X11_doAll hN (isTrays hN h5) ((isStand_13 hN))  _) dX11_perform_54 lv_X11_247 ok_X11_doAll (zz_rcv_o (sh_0 hN) rfl) (Nat.le_of_ble_eq_true rfl) rfl rfl (Nat.le_of_ble_eq_true rfl) (fun r6 m7 => ?_)
      refine zs_istore_n [(2, .int r6), (0, .ref (zz_a G 0)), (1, .int p1)] dX11_perform_57 rfl (Nat.le_of_ble_eq_true rfl) rfl ?_
      refine zs_aload_n dX11_perform_58 rfl 1 rfl ?_
      refine zs_iload_n dX11_perform_59 rfl 0 rfl ?_
      refine zs_cV_vW (rest := []) (k_X11_remember hN _ _) dX11_perform_60 lv_X11_217 ok_X11_remember (zz_rcv_o (sh_0 hN) rfl) (Nat.le_of_ble_eq_true rfl) rfl rfl (Nat.le_of_ble_eq_true rfl) (fun m8 => ?_)
      refine zs_iload_n dX11_perform_63 rfl 0 rfl ?_
      exact zs_iret dX11_perform_64 rfl rfl rfl
    · refine zs_bipush (v := (-6 : Int32)) dX11_perform_23 cb_m6 ?_
      exact zs_iret dX11_perform_25 rfl rfl rfl
  · refine zs_bipush (v := (-2 : Int32)) dX11_perform_8 cb_m2 ?_
    exact zs_iret dX11_perform_10 rfl rfl rfl
/-! X11_drawn: PillarDesk.drawn()I -/
theorem dX11_drawn_0 : decode cX11_drawn 0 = .ok (.aload_n 0, 1) := by decide +kernel
theorem dX11_drawn_1 : decode cX11_drawn 1 = .ok (.ldc_w 284, 3) := by decide +kernel
theorem dX11_drawn_4 : decode cX11_drawn 4 = .ok (.aload_n 0, 1) := by decide +kernel
theorem dX11_drawn_5 : decode cX11_drawn 5 = .ok (.getfield 278, 3) := by decide +kernel
theorem dX11_drawn_8 : decode cX11_drawn 8 = .ok (.imul, 1) := by decide +kernel
theorem dX11_drawn_9 : decode cX11_drawn 9 = .ok (.sipush 12345, 3) := by decide +kernel
theorem dX11_drawn_12 : decode cX11_drawn 12 = .ok (.iadd, 1) := by decide +kernel
theorem dX11_drawn_13 : decode cX11_drawn 13 = .ok (.putfield 278, 3) := by decide +kernel
theorem dX11_drawn_16 : decode cX11_drawn 16 = .ok (.aload_n 0, 1) := by decide +kernel
theorem dX11_drawn_17 : decode cX11_drawn 17 = .ok (.getfield 278, 3) := by decide +kernel
theorem dX11_drawn_20 : decode cX11_drawn 20 = .ok (.bipush 16, 2) := by decide +kernel
theorem dX11_drawn_22 : decode cX11_drawn 22 = .ok (.iushr, 1) := by decide +kernel
theorem dX11_drawn_23 : decode cX11_drawn 23 = .ok (.ireturn, 1) := by decide +kernel
def f_X11_drawn   (m : zz_Mem) : Option (Int32 × zz_Mem) :=
  zz_letM (zz_setI m 0 19 (((1103515245 : Int32) * (m.1 0 19)) + (12345 : Int32))) fun m1 =>
  some (((m1.1 0 19).toUInt32 >>> ((16 : Int32).toUInt32 &&& Int32.toUInt32 31)).toInt32, m1)
theorem k_X11_drawn {l : Launch} {G : zz_G} (hN : 107 ≤ zz_N G) : ∀ (m : zz_Mem), zz_Con zz_sh l G mX11_drawn 0 [.ref (zz_a G 0)] zz_vI zz_m2 (f_X11_drawn m) m := by
  intro m
  refine zz_con (lv := [(0, .ref (zz_a G 0))]) (by decide +kernel) (Nat.le_of_ble_eq_true rfl) rfl ?_
  unfold f_X11_drawn
  refine zs_aload_n dX11_drawn_0 rfl 0 rfl ?_
  refine zs_ldcw (v := (1103515245 : Int32)) dX11_drawn_1 kc_X11_284 ?_
  refine zs_aload_n dX11_drawn_4 rfl 0 rfl ?_
  refine zs_getI fl_X11_278 dX11_drawn_5 (sh_0 hN) rfl ?_
  refine zs_imul dX11_drawn_8 ?_
  refine zs_sipush (v := (12345 : Int32)) dX11_drawn_9 cs_12345 ?_
  refine zs_iadd dX11_drawn_12 ?_
  refine zs_putI fl_X11_278 dX11_drawn_13 (sh_0 hN) rfl ⟨rfl, rfl⟩ (fun m1 => ?_)
  refine zs_aload_n dX11_drawn_16 rfl 0 rfl ?_
  refine zs_getI fl_X11_278 dX11_drawn_17 (sh_0 hN) rfl ?_
  refine zs_bipush (v := (16 : Int32)) dX11_drawn_20 cb_16 ?_
  refine zs_iushr dX11_drawn_22 ?_
  exact zs_iret dX11_drawn_23 rfl rfl rfl
/-! X11_drawnDeed: PillarDesk.drawnDeed()I -/
theorem dX11_drawnDeed_0 : decode cX11_drawnDeed 0 = .ok (.aload_n 0, 1) := by decide +kernel
theorem dX11_drawnDeed_1 : decode cX11_drawnDeed 1 = .ok (.invokevirtual 285, 3) := by decide +kernel
theorem dX11_drawnDeed_4 : decode cX11_drawnDeed 4 = .ok (.iconst 4, 1) := by decide +kernel
theorem dX11_drawnDeed_5 : decode cX11_drawnDeed 5 = .ok (.irem, 1) := by decide +kernel
theorem dX11_drawnDeed_6 : decode cX11_drawnDeed 6 = .ok (.istore_n 1, 1) := by decide +kernel
theorem dX11_drawnDeed_7 : decode cX11_drawnDeed 7 = .ok (.iload_n 1, 1) := by decide +kernel
theorem dX11_drawnDeed_8 : decode cX11_drawnDeed 8 = .ok (.ifCond .ne 14, 3) := by decide +kernel
theorem dX11_drawnDeed_11 : decode cX11_drawnDeed 11 = .ok (.bipush 10, 2) := by decide +kernel
theorem dX11_drawnDeed_13 : decode cX11_drawnDeed 13 = .ok (.aload_n 0, 1) := by decide +kernel
theorem dX11_drawnDeed_14 : decode cX11_drawnDeed 14 = .ok (.invokevirtual 285, 3) := by decide +kernel
theorem dX11_drawnDeed_17 : decode cX11_drawnDeed 17 = .ok (.bipush 10, 2) := by decide +kernel
theorem dX11_drawnDeed_19 : decode cX11_drawnDeed 19 = .ok (.irem, 1) := by decide +kernel
theorem dX11_drawnDeed_20 : decode cX11_drawnDeed 20 = .ok (.iadd, 1) := by decide +kernel
theorem dX11_drawnDeed_21 : decode cX11_drawnDeed 21 = .ok (.ireturn, 1) := by decide +kernel
theorem dX11_drawnDeed_22 : decode cX11_drawnDeed 22 = .ok (.iload_n 1, 1) := by decide +kernel
theorem dX11_drawnDeed_23 : decode cX11_drawnDeed 23 = .ok (.iconst 3, 1) := by decide +kernel
theorem dX11_drawnDeed_24 : decode cX11_drawnDeed 24 = .ok (.if_icmp .ne 30, 3) := by decide +kernel
theorem dX11_drawnDeed_27 : decode cX11_drawnDeed 27 = .ok (.aload_n 0, 1) := by decide +kernel
theorem dX11_drawnDeed_28 : decode cX11_drawnDeed 28 = .ok (.invokevirtual 285, 3) := by decide +kernel
theorem dX11_drawnDeed_31 : decode cX11_drawnDeed 31 = .ok (.bipush 10, 2) := by decide +kernel
theorem dX11_drawnDeed_33 : decode cX11_drawnDeed 33 = .ok (.irem, 1) := by decide +kernel
theorem dX11_drawnDeed_34 : decode cX11_drawnDeed 34 = .ok (.istore_n 2, 1) := by decide +kernel
theorem dX11_drawnDeed_35 : decode cX11_drawnDeed 35 = .ok (.sipush 10000, 3) := by decide +kernel
theorem dX11_drawnDeed_38 : decode cX11_drawnDeed 38 = .ok (.sipush 2000, 3) := by decide +kernel
theorem dX11_drawnDeed_41 : decode cX11_drawnDeed 41 = .ok (.iload_n 2, 1) := by decide +kernel
theorem dX11_drawnDeed_42 : decode cX11_drawnDeed 42 = .ok (.imul, 1) := by decide +kernel
theorem dX11_drawnDeed_43 : decode cX11_drawnDeed 43 = .ok (.iadd, 1) := by decide +kernel
theorem dX11_drawnDeed_44 : decode cX11_drawnDeed 44 = .ok (.aload_n 0, 1) := by decide +kernel
theorem dX11_drawnDeed_45 : decode cX11_drawnDeed 45 = .ok (.invokevirtual 285, 3) := by decide +kernel
theorem dX11_drawnDeed_48 : decode cX11_drawnDeed 48 = .ok (.sipush 1999, 3) := by decide +kernel
theorem dX11_drawnDeed_51 : decode cX11_drawnDeed 51 = .ok (.irem, 1) := by decide +kernel
theorem dX11_drawnDeed_52 : decode cX11_drawnDeed 52 = .ok (.iadd, 1) := by decide +kernel
theorem dX11_drawnDeed_53 : decode cX11_drawnDeed 53 = .ok (.ireturn, 1) := by decide +kernel
theorem dX11_drawnDeed_54 : decode cX11_drawnDeed 54 = .ok (.aload_n 0, 1) := by decide +kernel
theorem dX11_drawnDeed_55 : decode cX11_drawnDeed 55 = .ok (.invokevirtual 285, 3) := by decide +kernel
theorem dX11_drawnDeed_58 : decode cX11_drawnDeed 58 = .ok (.bipush 8, 2) := by decide +kernel
theorem dX11_drawnDeed_60 : decode cX11_drawnDeed 60 = .ok (.irem, 1) := by decide +kernel
theorem dX11_drawnDeed_61 : decode cX11_drawnDeed 61 = .ok (.istore_n 2, 1) := by decide +kernel
theorem dX11_drawnDeed_62 : decode cX11_drawnDeed 62 = .ok (.sipush 1000, 3) := by decide +kernel
theorem dX11_drawnDeed_65 : decode cX11_drawnDeed 65 = .ok (.sipush 1000, 3) := by decide +kernel
theorem dX11_drawnDeed_68 : decode cX11_drawnDeed 68 = .ok (.iload_n 2, 1) := by decide +kernel
theorem dX11_drawnDeed_69 : decode cX11_drawnDeed 69 = .ok (.imul, 1) := by decide +kernel
theorem dX11_drawnDeed_70 : decode cX11_drawnDeed 70 = .ok (.iadd, 1) := by decide +kernel
theorem dX11_drawnDeed_71 : decode cX11_drawnDeed 71 = .ok (.aload_n 0, 1) := by decide +kernel
theorem dX11_drawnDeed_72 : decode cX11_drawnDeed 72 = .ok (.invokevirtual 285, 3) := by decide +kernel
theorem dX11_drawnDeed_75 : decode cX11_drawnDeed 75 = .ok (.sipush 199, 3) := by decide +kernel
theorem dX11_drawnDeed_78 : decode cX11_drawnDeed 78 = .ok (.irem, 1) := by decide +kernel
theorem dX11_drawnDeed_79 : decode cX11_drawnDeed 79 = .ok (.iadd, 1) := by decide +kernel
theorem dX11_drawnDeed_80 : decode cX11_drawnDeed 80 = .ok (.ireturn, 1) := by decide +kernel
def f_X11_drawnDeed   (m : zz_Mem) : Option (Int32 × zz_Mem) :=
  zz_bnd (f_X11_drawn m) fun r1 m2 =>
  zz_letI (r1 - r1 / (4 : Int32) * (4 : Int32)) fun x3 =>
  if x3 = 0 then (
  zz_bnd (f_X11_drawn m2) fun r14 m15 =>
  some ((10 : Int32) + (r14 - r14 / (10 : Int32) * (10 : Int32)), m15))
  else (
  if x3 = (3 : Int32) then (
  zz_bnd (f_X11_drawn m2) fun r9 m10 =>
  zz_letI (r9 - r9 / (10 : Int32) * (10 : Int32)) fun x11 =>
  zz_bnd (f_X11_drawn m10) fun r12 m13 =>
  some (((10000 : Int32) + ((2000 : Int32) * x11)) + (r12 - r12 / (1999 : Int32) * (1999 : Int32)), m13))
  else (
  zz_bnd (f_X11_drawn m2) fun r4 m5 =>
  zz_letI (r4 - r4 / (8 : Int32) * (8 : Int32)) fun x6 =>
  zz_bnd (f_X11_drawn m5) fun r7 m8 =>
  some (((1000 : Int32) + ((1000 : Int32) * x6)) + (r7 - r7 / (199 : Int32) * (199 : Int32)), m8)))
theorem k_X11_drawnDeed {l : Launch} {G : zz_G} (hN : 107 ≤ zz_N G) : ∀ (m : zz_Mem), zz_Con zz_sh l G mX11_drawnDeed 1 [.ref (zz_a G 0)] zz_vI zz_m2 (f_X11_drawnDeed m) m := by
  intro m
  refine zz_con (lv := [(0, .ref (zz_a G 0))]) (by decide +kernel) (Nat.le_of_ble_eq_true rfl) rfl ?_
  unfold f_X11_drawnDeed
  refine zs_aload_n dX11_drawnDeed_0 rfl 0 rfl ?_
  refine zs_cV_iW (rest := []) (k_X11_drawn hN  _) dX11_drawnDeed_1 lv_X11_285 ok_X11_drawn (zz_rcv_o (sh_0 hN) rfl) (Nat.le_of_ble_eq_true rfl) rfl rfl (Nat.le_of_ble_eq_true rfl) (fun r1 m2 => ?_)
  refine zs_iconst (v := (4 : Int32)) dX11_drawnDeed_4 ci_4 ?_
  refine zs_irem dX11_drawnDeed_5 (by decide) ?_
  refine zs_letI (fun x3 => ?_)
  refine zs_istore_n [(1, .int x3), (0, .ref (zz_a G 0))] dX11_drawnDeed_6 rfl (Nat.le_of_ble_eq_true rfl) rfl ?_
  refine zs_iload_n dX11_drawnDeed_7 rfl 0 rfl ?_
  refine zs_if_ne (tgt := 22) dX11_drawnDeed_8 (by decide) ?_ ?_
  · refine zs_iload_n dX11_drawnDeed_22 rfl 0 rfl ?_
    refine zs_iconst (v := (3 : Int32)) dX11_drawnDeed_23 ci_3 ?_
    refine zs_icmp_ne (tgt := 54) dX11_drawnDeed_24 (by decide) ?_ ?_
    · refine zs_aload_n dX11_drawnDeed_54 rfl 1 rfl ?_
      refine zs_cV_iW (rest := []) (k_X11_drawn hN  _) dX11_drawnDeed_55 lv_X11_285 ok_X11_drawn (zz_rcv_o (sh_0 hN) rfl) (Nat.le_of_ble_eq_true rfl) rfl rfl (Nat.le_of_ble_eq_true rfl) (fun r4 m5 => ?_)
      refine zs_bipush (v := (8 : Int32)) dX11_drawnDeed_58 cb_8 ?_
      refine zs_irem dX11_drawnDeed_60 (by decide) ?_
      refine zs_letI (fun x6 => ?_)
      refine zs_istore_n [(2, .int x6), (1, .int x3), (0, .ref (zz_a G 0))] dX11_drawnDeed_61 rfl (Nat.le_of_ble_eq_true rfl) rfl ?_
      refine zs_sipush (v := (1000 : Int32)) dX11_drawnDeed_62 cs_1000 ?_
      refine zs_sipush (v := (1000 : Int32)) dX11_drawnDeed_65 cs_1000 ?_
      refine zs_iload_n dX11_drawnDeed_68 rfl 0 rfl ?_
      refine zs_imul dX11_drawnDeed_69 ?_
      refine zs_iadd dX11_drawnDeed_70 ?_
      refine zs_aload_n dX11_drawnDeed_71 rfl 2 rfl ?_
      refine zs_cV_iW (rest := [.int ((1000 : Int32) + ((1000 : Int32) * x6))]) (k_X11_drawn hN  _) dX11_drawnDeed_72 lv_X11_285 ok_X11_drawn (zz_rcv_o (sh_0 hN) rfl) (Nat.le_of_ble_eq_true rfl) rfl rfl (Nat.le_of_ble_eq_true rfl) (fun r7 m8 => ?_)
      refine zs_sipush (v := (199 : Int32)) dX11_drawnDeed_75 cs_199 ?_
      refine zs_irem dX11_drawnDeed_78 (by decide) ?_
      refine zs_iadd dX11_drawnDeed_79 ?_
      exact zs_iret dX11_drawnDeed_80 rfl rfl rfl
    · refine zs_aload_n dX11_drawnDeed_27 rfl 1 rfl ?_
      refine zs_cV_iW (rest := []) (k_X11_drawn hN  _) dX11_drawnDeed_28 lv_X11_285 ok_X11_drawn (zz_rcv_o (sh_0 hN) rfl) (Nat.le_of_ble_eq_true rfl) rfl rfl (Nat.le_of_ble_eq_true rfl) (fun r9 m10 => ?_)
      refine zs_bipush (v := (10 : Int32)) dX11_drawnDeed_31 cb_10 ?_
      refine zs_irem dX11_drawnDeed_33 (by decide) ?_
      refine zs_letI (fun x11 => ?_)
      refine zs_istore_n [(2, .int x11), (1, .int x3), (0, .ref (zz_a G 0))] dX11_drawnDeed_34 rfl (Nat.le_of_ble_eq_true rfl) rfl ?_
      refine zs_sipush (v := (10000 : Int32)) dX11_drawnDeed_35 cs_10000 ?_
      refine zs_sipush (v := (2000 : Int32)) dX11_drawnDeed_38 cs_2000 ?_
      refine zs_iload_n dX11_drawnDeed_41 rfl 0 rfl ?_
      refine zs_imul dX11_drawnDeed_42 ?_
      refine zs_iadd dX11_drawnDeed_43 ?_
      refine zs_aload_n dX11_drawnDeed_44 rfl 2 rfl ?_
      refine zs_cV_iW (rest := [.int ((10000 : Int32) + ((2000 : Int32) * x11))]) (k_X11_drawn hN  _) dX11_drawnDeed_45 lv_X11_285 ok_X11_drawn (zz_rcv_o (sh_0 hN) rfl) (Nat.le_of_ble_eq_true rfl) rfl rfl (Nat.le_of_ble_eq_true rfl) (fun r12 m13 => ?_)
      refine zs_sipush (v := (1999 : Int32)) dX11_drawnDeed_48 cs_1999 ?_
      refine zs_irem dX11_drawnDeed_51 (by decide) ?_
      refine zs_iadd dX11_drawnDeed_52 ?_
      exact zs_iret dX11_drawnDeed_53 rfl rfl rfl
  · refine zs_bipush (v := (10 : Int32)) dX11_drawnDeed_11 cb_10 ?_
    refine zs_aload_n dX11_drawnDeed_13 rfl 1 rfl ?_
    refine zs_cV_iW (rest := [.int (10 : Int32)]) (k_X11_drawn hN  _) dX11_drawnDeed_14 lv_X11_285 ok_X11_drawn (zz_rcv_o (sh_0 hN) rfl) (Nat.le_of_ble_eq_true rfl) rfl rfl (Nat.le_of_ble_eq_true rfl) (fun r14 m15 => ?_)
    refine zs_bipush (v := (10 : Int32)) dX11_drawnDeed_17 cb_10 ?_
    refine zs_irem dX11_drawnDeed_19 (by decide) ?_
    refine zs_iadd dX11_drawnDeed_20 ?_
    exact zs_iret dX11_drawnDeed_21 rfl rfl rfl
/-! X11_week: PillarDesk.week(II)I -/
theorem dX11_week_0 : decode cX11_week 0 = .ok (.iload_n 2, 1) := by decide +kernel
theorem dX11_week_1 : decode cX11_week 1 = .ok (.iconst 1, 1) := by decide +kernel
theorem dX11_week_2 : decode cX11_week 2 = .ok (.if_icmp .lt 9, 3) := by decide +kernel
theorem dX11_week_5 : decode cX11_week 5 = .ok (.iload_n 2, 1) := by decide +kernel
theorem dX11_week_6 : decode cX11_week 6 = .ok (.bipush 40, 2) := by decide +kernel
theorem dX11_week_8 : decode cX11_week 8 = .ok (.if_icmp .le 6, 3) := by decide +kernel
theorem dX11_week_11 : decode cX11_week 11 = .ok (.bipush (-3), 2) := by decide +kernel
theorem dX11_week_13 : decode cX11_week 13 = .ok (.ireturn, 1) := by decide +kernel
theorem dX11_week_14 : decode cX11_week 14 = .ok (.aload_n 0, 1) := by decide +kernel
theorem dX11_week_15 : decode cX11_week 15 = .ok (.getfield 56, 3) := by decide +kernel
theorem dX11_week_18 : decode cX11_week 18 = .ok (.aload_n 0, 1) := by decide +kernel
theorem dX11_week_19 : decode cX11_week 19 = .ok (.getfield 20, 3) := by decide +kernel
theorem dX11_week_22 : decode cX11_week 22 = .ok (.getfield 160, 3) := by decide +kernel
theorem dX11_week_25 : decode cX11_week 25 = .ok (.invokevirtual 210, 3) := by decide +kernel
theorem dX11_week_28 : decode cX11_week 28 = .ok (.aload_n 0, 1) := by decide +kernel
theorem dX11_week_29 : decode cX11_week 29 = .ok (.iload_n 1, 1) := by decide +kernel
theorem dX11_week_30 : decode cX11_week 30 = .ok (.putfield 278, 3) := by decide +kernel
theorem dX11_week_33 : decode cX11_week 33 = .ok (.iconst 0, 1) := by decide +kernel
theorem dX11_week_34 : decode cX11_week 34 = .ok (.istore_n 3, 1) := by decide +kernel
theorem dX11_week_35 : decode cX11_week 35 = .ok (.iconst 0, 1) := by decide +kernel
theorem dX11_week_36 : decode cX11_week 36 = .ok (.istore 4, 2) := by decide +kernel
theorem dX11_week_38 : decode cX11_week 38 = .ok (.iload 4, 2) := by decide +kernel
theorem dX11_week_40 : decode cX11_week 40 = .ok (.iload_n 2, 1) := by decide +kernel
theorem dX11_week_41 : decode cX11_week 41 = .ok (.if_icmp .ge 34, 3) := by decide +kernel
theorem dX11_week_44 : decode cX11_week 44 = .ok (.aload_n 0, 1) := by decide +kernel
theorem dX11_week_45 : decode cX11_week 45 = .ok (.getfield 20, 3) := by decide +kernel
theorem dX11_week_48 : decode cX11_week 48 = .ok (.aload_n 0, 1) := by decide +kernel
theorem dX11_week_49 : decode cX11_week 49 = .ok (.getfield 20, 3) := by decide +kernel
theorem dX11_week_52 : decode cX11_week 52 = .ok (.getfield 160, 3) := by decide +kernel
theorem dX11_week_55 : decode cX11_week 55 = .ok (.aload_n 0, 1) := by decide +kernel
theorem dX11_week_56 : decode cX11_week 56 = .ok (.invokevirtual 281, 3) := by decide +kernel
theorem dX11_week_59 : decode cX11_week 59 = .ok (.i2l, 1) := by decide +kernel
theorem dX11_week_60 : decode cX11_week 60 = .ok (.invokevirtual 256, 3) := by decide +kernel
theorem dX11_week_63 : decode cX11_week 63 = .ok (.ifCond .ne 6, 3) := by decide +kernel
theorem dX11_week_66 : decode cX11_week 66 = .ok (.iinc 3 1, 3) := by decide +kernel
theorem dX11_week_69 : decode cX11_week 69 = .ok (.iinc 4 1, 3) := by decide +kernel
theorem dX11_week_72 : decode cX11_week 72 = .ok (.goto (-34), 3) := by decide +kernel
theorem dX11_week_75 : decode cX11_week 75 = .ok (.aload_n 0, 1) := by decide +kernel
theorem dX11_week_76 : decode cX11_week 76 = .ok (.iload_n 3, 1) := by decide +kernel
theorem dX11_week_77 : decode cX11_week 77 = .ok (.invokevirtual 217, 3) := by decide +kernel
theorem dX11_week_80 : decode cX11_week 80 = .ok (.iload_n 3, 1) := by decide +kernel
theorem dX11_week_81 : decode cX11_week 81 = .ok (.ireturn, 1) := by decide +kernel
def f_X11_week_75   (v3 : Int32) (m : zz_Mem) : Option (Int32 × zz_Mem) :=
  zz_bndR (f_X11_remember v3 m) fun m1 =>
  some (v3, m1)
theorem t_X11_week_75 {l : Launch} {G : zz_G} (hN : 107 ≤ zz_N G)  : ∀ (v3 : Int32) (m : zz_Mem), zz_Sim zz_sh l G mX11_week 4 zz_vI zz_m2 (f_X11_week_75 v3 m) 75 [(0, .ref (zz_a G 0)), (3, .int v3)] [] m := by
  intro v3 m
  unfold f_X11_week_75
  refine zs_aload_n dX11_week_75 rfl 0 rfl ?_
  refine zs_iload_n dX11_week_76 rfl 1 rfl ?_
  refine zs_cV_vW (rest := []) (k_X11_remember hN _ _) dX11_week_77 lv_X11_217 ok_X11_remember (zz_rcv_o (sh_0 hN) rfl) (Nat.le_of_ble_eq_true rfl) rfl rfl (Nat.le_of_ble_eq_true rfl) (fun m1 => ?_)
  refine zs_iload_n dX11_week_80 rfl 1 rfl ?_
  exact zs_iret dX11_week_81 rfl rfl rfl
def f_X11_week_38   : Nat → Int32 → Int32 → Int32 → zz_Mem → Option (Int32 × zz_Mem)
  | 0, _, _, _, _ => none
  | n + 1, v2, v3, v4, m =>
  if v2 ≤ v4 then (
  f_X11_week_75 v3 m)
  else (
  zz_bnd (f_X11_drawnDeed m) fun r1 m2 =>
  zz_bnd (f_X6_doDeed 13 r1.toInt64 m2) fun r3 m4 =>
  if r3 = 0 then (
  zz_letI (v3 + (1 : Int32)) fun x6 =>
  zz_letI (v4 + (1 : Int32)) fun x7 =>
  f_X11_week_38 n v2 x6 x7 m4)
  else (
  zz_letI (v4 + (1 : Int32)) fun x5 =>
  f_X11_week_38 n v2 v3 x5 m4))
theorem t_X11_week_38 {l : Launch} {G : zz_G} (hN : 107 ≤ zz_N G)  : ∀ (n : Nat) (v2 : Int32) (v3 : Int32) (v4 : Int32) (m : zz_Mem), zz_Sim zz_sh l G mX11_week 4 zz_vI zz_m2 (f_X11_week_38 n v2 v3 v4 m) 38 [(0, .ref (zz_a G 0)), (2, .int v2), (3, .int v3), (4, .int v4)] [] m := by
  intro n
  induction n with
  | zero => intro _ _ _ _; exact zs_none
  | succ n ih =>
    intro v2 v3 v4 m
    rw [f_X11_week_38]
    refine zs_iload dX11_week_38 3 rfl ?_
    refine zs_iload_n dX11_week_40 rfl 1 rfl ?_
    refine zs_icmp_ge (tgt := 75) dX11_week_41 (by decide) ?_ ?_
    · refine zs_sub [0, 2] rfl ?_
      exact t_X11_week_75 hN _ _
    · refine zs_aload_n dX11_week_44 rfl 0 rfl ?_
      refine zs_getR fl_X11_20 dX11_week_45 (sh_0 hN) rfl ?_
      refine zs_aload_n dX11_week_48 rfl 0 rfl ?_
      refine zs_getR fl_X11_20 dX11_week_49 (sh_0 hN) rfl ?_
      refine zs_getR fl_X11_160 dX11_week_52 (sh_2 hN) rfl ?_
      refine zs_aload_n dX11_week_55 rfl 0 rfl ?_
      refine zs_cV_iW (rest := [.ref (zz_a G 13), .ref (zz_a G 2)]) (k_X11_drawnDeed hN  _) dX11_week_56 lv_X11_281 ok_X11_drawnDeed (zz_rcv_o (sh_0 hN) rfl) (Nat.le_of_ble_eq_true rfl) rfl rfl (Nat.le_of_ble_eq_true rfl) (fun r1 m2 => ?_)
      refine zs_i2l dX11_week_59 ?_
      refine zs_cV_iW (rest := []) (k_X6_doDeed hN ((isStand_13 hN)) _ _) dX11_week_60 lv_X11_256 ok_X6_doDeed (zz_rcv_o (sh_2 hN) rfl) (Nat.le_of_ble_eq_true rfl) rfl rfl (Nat.le_of_ble_eq_true rfl) (fun r3 m4 => ?_)
      refine zs_if_ne (tgt := 69) dX11_week_63 (by decide) ?_ ?_
      · refine zs_iinc (fun y => [(4, .int y), (0, .ref (zz_a G 0)), (2, .int v2), (3, .int v3)]) dX11_week_69 3 rfl ci_1 (Nat.le_of_ble_eq_true rfl) (fun _ => rfl) (fun x5 => ?_)
        refine zs_goto (tgt := 38) dX11_week_72 (by decide) ?_
        refine zs_sub [1, 2, 3, 0] rfl ?_
        exact ih _ _ _ _
      · refine zs_iinc (fun y => [(3, .int y), (0, .ref (zz_a G 0)), (2, .int v2), (4, .int v4)]) dX11_week_66 2 rfl ci_1 (Nat.le_of_ble_eq_true rfl) (fun _ => rfl) (fun x6 => ?_)
        refine zs_iinc (fun y => [(4, .int y), (3, .int x6), (0, .ref (zz_a G 0)), (2, .int v2)]) dX11_week_69 3 rfl ci_1 (Nat.le_of_ble_eq_true rfl) (fun _ => rfl) (fun x7 => ?_)
        refine zs_goto (tgt := 38) dX11_week_72 (by decide) ?_
        refine zs_sub [2, 3, 1, 0] rfl ?_
        exact ih _ _ _ _
def f_X11_week  (p1 : Int32) (p2 : Int32) (m : zz_Mem) : Option (Int32 × zz_Mem) :=
  if p2 < (1 : Int32) then (
  some ((-3 : Int32), m))
  else (
  if p2 ≤ (40 : Int32) then (
  zz_bndR (f_X9_copyFrom 66 13 m) fun m1 =>
  zz_letM (zz_setI m1 0 19 p1) fun m2 =>
  f_X11_week_38 zz_fuel p2 (0 : Int32) (0 : Int32) m2)
  else (
  some ((-3 : Int32), m)))
theorem k_X11_week {l : Launch} {G : zz_G} (hN : 107 ≤ zz_N G) : ∀ (p1 : Int32) (p2 : Int32) (m : zz_Mem), zz_Con zz_sh l G mX11_week 4 [.ref (zz_a G 0), .int p1, .int p2] zz_vI zz_m2 (f_X11_week p1 p2 m) m := by
  intro p1 p2 m
  refine zz_con (lv := [(0, .ref (zz_a G 0)), (1, .int p1), (2, .int p2)]) (by decide +kernel) (Nat.le_of_ble_eq_true rfl) rfl ?_
  unfold f_X11_week
  refine zs_iload_n dX11_week_0 rfl 2 rfl ?_
  refine zs_iconst (v := (1 : Int32)) dX11_week_1 ci_1 ?_
  refine zs_icmp_lt (tgt := 11) dX11_week_2 (by decide) ?_ ?_
  · refine zs_bipush (v := (-3 : Int32)) dX11_week_11 cb_m3 ?_
    exact zs_iret dX11_week_13 rfl rfl rfl
  · refine zs_iload_n dX11_week_5 rfl 2 rfl ?_
    refine zs_bipush (v := (40 : Int32)) dX11_week_6 cb_40 ?_
    refine zs_icmp_le (tgt := 14) dX11_week_8 (by decide) ?_ ?_
    · refine zs_aload_n dX11_week_14 rfl 0 rfl ?_
      refine zs_getR fl_X11_56 dX11_week_15 (sh_0 hN) rfl ?_
      refine zs_aload_n dX11_week_18 rfl 0 rfl ?_
      refine zs_getR fl_X11_20 dX11_week_19 (sh_0 hN) rfl ?_
      refine zs_getR fl_X11_160 dX11_week_22 (sh_2 hN) rfl ?_
      refine zs_cV_vW (rest := []) (k_X9_copyFrom hN ((isStand_66 hN)) ((isStand_13 hN))  _) dX11_week_25 lv_X11_210 ok_X9_copyFrom (zz_rcv_o (sh_66 hN) rfl) (Nat.le_of_ble_eq_true rfl) rfl rfl (Nat.le_of_ble_eq_true rfl) (fun m1 => ?_)
      refine zs_aload_n dX11_week_28 rfl 0 rfl ?_
      refine zs_iload_n dX11_week_29 rfl 1 rfl ?_
      refine zs_putI fl_X11_278 dX11_week_30 (sh_0 hN) rfl ⟨rfl, rfl⟩ (fun m2 => ?_)
      refine zs_iconst (v := (0 : Int32)) dX11_week_33 ci_0 ?_
      refine zs_istore_n [(3, .int (0 : Int32)), (0, .ref (zz_a G 0)), (1, .int p1), (2, .int p2)] dX11_week_34 rfl (Nat.le_of_ble_eq_true rfl) rfl ?_
      refine zs_iconst (v := (0 : Int32)) dX11_week_35 ci_0 ?_
      refine zs_istore [(4, .int (0 : Int32)), (3, .int (0 : Int32)), (0, .ref (zz_a G 0)), (1, .int p1), (2, .int p2)] dX11_week_36 (Nat.le_of_ble_eq_true rfl) rfl ?_
      refine zs_sub [2, 4, 1, 0] rfl ?_
      exact t_X11_week_38 hN zz_fuel _ _ _ _
    · refine zs_bipush (v := (-3 : Int32)) dX11_week_11 cb_m3 ?_
      exact zs_iret dX11_week_13 rfl rfl rfl
/-! X11_bumpedTrial: PillarDesk.bumpedTrial(II)LPillarDesk$Curve; -/
theorem dX11_bumpedTrial_0 : decode cX11_bumpedTrial 0 = .ok (.aload_n 0, 1) := by decide +kernel
theorem dX11_bumpedTrial_1 : decode cX11_bumpedTrial 1 = .ok (.getfield 79, 3) := by decide +kernel
theorem dX11_bumpedTrial_4 : decode cX11_bumpedTrial 4 = .ok (.aload_n 0, 1) := by decide +kernel
theorem dX11_bumpedTrial_5 : decode cX11_bumpedTrial 5 = .ok (.invokevirtual 166, 3) := by decide +kernel
theorem dX11_bumpedTrial_8 : decode cX11_bumpedTrial 8 = .ok (.invokevirtual 288, 3) := by decide +kernel
theorem dX11_bumpedTrial_11 : decode cX11_bumpedTrial 11 = .ok (.aload_n 0, 1) := by decide +kernel
theorem dX11_bumpedTrial_12 : decode cX11_bumpedTrial 12 = .ok (.getfield 20, 3) := by decide +kernel
theorem dX11_bumpedTrial_15 : decode cX11_bumpedTrial 15 = .ok (.iload_n 1, 1) := by decide +kernel
theorem dX11_bumpedTrial_16 : decode cX11_bumpedTrial 16 = .ok (.invokevirtual 141, 3) := by decide +kernel
theorem dX11_bumpedTrial_19 : decode cX11_bumpedTrial 19 = .ok (.ifCond .eq 55, 3) := by decide +kernel
theorem dX11_bumpedTrial_22 : decode cX11_bumpedTrial 22 = .ok (.aload_n 0, 1) := by decide +kernel
theorem dX11_bumpedTrial_23 : decode cX11_bumpedTrial 23 = .ok (.getfield 79, 3) := by decide +kernel
theorem dX11_bumpedTrial_26 : decode cX11_bumpedTrial 26 = .ok (.getfield 170, 3) := by decide +kernel
theorem dX11_bumpedTrial_29 : decode cX11_bumpedTrial 29 = .ok (.iload_n 1, 1) := by decide +kernel
theorem dX11_bumpedTrial_30 : decode cX11_bumpedTrial 30 = .ok (.aload_n 0, 1) := by decide +kernel
theorem dX11_bumpedTrial_31 : decode cX11_bumpedTrial 31 = .ok (.getfield 75, 3) := by decide +kernel
theorem dX11_bumpedTrial_34 : decode cX11_bumpedTrial 34 = .ok (.getfield 170, 3) := by decide +kernel
theorem dX11_bumpedTrial_37 : decode cX11_bumpedTrial 37 = .ok (.iload_n 1, 1) := by decide +kernel
theorem dX11_bumpedTrial_38 : decode cX11_bumpedTrial 38 = .ok (.iaload, 1) := by decide +kernel
theorem dX11_bumpedTrial_39 : decode cX11_bumpedTrial 39 = .ok (.iload_n 2, 1) := by decide +kernel
theorem dX11_bumpedTrial_40 : decode cX11_bumpedTrial 40 = .ok (.iadd, 1) := by decide +kernel
theorem dX11_bumpedTrial_41 : decode cX11_bumpedTrial 41 = .ok (.invokestatic 291, 3) := by decide +kernel
theorem dX11_bumpedTrial_44 : decode cX11_bumpedTrial 44 = .ok (.iastore, 1) := by decide +kernel
theorem dX11_bumpedTrial_45 : decode cX11_bumpedTrial 45 = .ok (.aload_n 0, 1) := by decide +kernel
theorem dX11_bumpedTrial_46 : decode cX11_bumpedTrial 46 = .ok (.getfield 66, 3) := by decide +kernel
theorem dX11_bumpedTrial_49 : decode cX11_bumpedTrial 49 = .ok (.getfield 176, 3) := by decide +kernel
theorem dX11_bumpedTrial_52 : decode cX11_bumpedTrial 52 = .ok (.iload_n 1, 1) := by decide +kernel
theorem dX11_bumpedTrial_53 : decode cX11_bumpedTrial 53 = .ok (.iaload, 1) := by decide +kernel
theorem dX11_bumpedTrial_54 : decode cX11_bumpedTrial 54 = .ok (.iconst (-1), 1) := by decide +kernel
theorem dX11_bumpedTrial_55 : decode cX11_bumpedTrial 55 = .ok (.if_icmp .eq 19, 3) := by decide +kernel
theorem dX11_bumpedTrial_58 : decode cX11_bumpedTrial 58 = .ok (.aload_n 0, 1) := by decide +kernel
theorem dX11_bumpedTrial_59 : decode cX11_bumpedTrial 59 = .ok (.getfield 79, 3) := by decide +kernel
theorem dX11_bumpedTrial_62 : decode cX11_bumpedTrial 62 = .ok (.aload_n 0, 1) := by decide +kernel
theorem dX11_bumpedTrial_63 : decode cX11_bumpedTrial 63 = .ok (.getfield 66, 3) := by decide +kernel
theorem dX11_bumpedTrial_66 : decode cX11_bumpedTrial 66 = .ok (.getfield 176, 3) := by decide +kernel
theorem dX11_bumpedTrial_69 : decode cX11_bumpedTrial 69 = .ok (.iload_n 1, 1) := by decide +kernel
theorem dX11_bumpedTrial_70 : decode cX11_bumpedTrial 70 = .ok (.iaload, 1) := by decide +kernel
theorem dX11_bumpedTrial_71 : decode cX11_bumpedTrial 71 = .ok (.invokevirtual 272, 3) := by decide +kernel
theorem dX11_bumpedTrial_74 : decode cX11_bumpedTrial 74 = .ok (.aload_n 0, 1) := by decide +kernel
theorem dX11_bumpedTrial_75 : decode cX11_bumpedTrial 75 = .ok (.getfield 79, 3) := by decide +kernel
theorem dX11_bumpedTrial_78 : decode cX11_bumpedTrial 78 = .ok (.areturn, 1) := by decide +kernel
def f_X11_bumpedTrial  (p1 : Int32) (p2 : Int32) (m : zz_Mem) : Option zz_Mem :=
  zz_bndR (f_X11_solvedNow m) fun m1 =>
  zz_bndR (f_X1_copyFrom m1) fun m2 =>
  zz_bndR (f_X6_hasInput m2 p1) fun r3 =>
  if r3 = 0 then (
  some m2)
  else (
  zz_ix p1 8 <|
  zz_bndR (f_X11_inRateBounds ((m2.1 84 p1.toNatClampNeg) + p2)) fun r4 =>
  zz_ix p1 8 <| zz_letM (zz_setI m2 89 p1.toNatClampNeg r4) fun m5 =>
  zz_ix p1 8 <|
  if (m5.1 77 p1.toNatClampNeg) = (-1 : Int32) then (
  some m5)
  else (
  zz_ix p1 8 <|
  zz_bndR (f_X1_solve 88 (m5.1 77 p1.toNatClampNeg) m5) fun m6 =>
  some m6))
theorem k_X11_bumpedTrial {l : Launch} {G : zz_G} (hN : 107 ≤ zz_N G) : ∀ (p1 : Int32) (p2 : Int32) (m : zz_Mem), zz_Con zz_sh l G mX11_bumpedTrial 6 [.ref (zz_a G 0), .int p1, .int p2] (zz_vA G 88) zz_mV (f_X11_bumpedTrial p1 p2 m) m := by
  intro p1 p2 m
  refine zz_con (lv := [(0, .ref (zz_a G 0)), (1, .int p1), (2, .int p2)]) (by decide +kernel) (Nat.le_of_ble_eq_true rfl) rfl ?_
  unfold f_X11_bumpedTrial
  refine zs_aload_n dX11_bumpedTrial_0 rfl 0 rfl ?_
  refine zs_getR fl_X11_79 dX11_bumpedTrial_1 (sh_0 hN) rfl ?_
  refine zs_aload_n dX11_bumpedTrial_4 rfl 0 rfl ?_
  refine zs_cV_aW (rest := [.ref (zz_a G 88)]) (k_X11_solvedNow hN  _) dX11_bumpedTrial_5 lv_X11_166 ok_X11_solvedNow (zz_rcv_o (sh_0 hN) rfl) (Nat.le_of_ble_eq_true rfl) rfl rfl (Nat.le_of_ble_eq_true rfl) (fun m1 => ?_)
  refine zs_cV_vW (rest := []) (k_X1_copyFrom hN  _) dX11_bumpedTrial_8 lv_X11_288 ok_X1_copyFrom (zz_rcv_o (sh_88 hN) rfl) (Nat.le_of_ble_eq_true rfl) rfl rfl (Nat.le_of_ble_eq_true rfl) (fun m2 => ?_)
  refine zs_aload_n dX11_bumpedTrial_11 rfl 0 rfl ?_
  refine zs_getR fl_X11_20 dX11_bumpedTrial_12 (sh_0 hN) rfl ?_
  refine zs_iload_n dX11_bumpedTrial_15 rfl 1 rfl ?_
  refine zs_cV_iR (rest := []) (k_X6_hasInput hN _ _) dX11_bumpedTrial_16 lv_X11_141 ok_X6_hasInput (zz_rcv_o (sh_2 hN) rfl) (Nat.le_of_ble_eq_true rfl) rfl rfl (Nat.le_of_ble_eq_true rfl) (fun r3 => ?_)
  refine zs_if_eq (tgt := 74) dX11_bumpedTrial_19 (by decide) ?_ ?_
  · refine zs_aload_n dX11_bumpedTrial_74 rfl 0 rfl ?_
    refine zs_getR fl_X11_79 dX11_bumpedTrial_75 (sh_0 hN) rfl ?_
    exact zs_aret dX11_bumpedTrial_78 rfl rfl rfl
  · refine zs_aload_n dX11_bumpedTrial_22 rfl 0 rfl ?_
    refine zs_getR fl_X11_79 dX11_bumpedTrial_23 (sh_0 hN) rfl ?_
    refine zs_getR fl_X11_170 dX11_bumpedTrial_26 (sh_88 hN) rfl ?_
    refine zs_iload_n dX11_bumpedTrial_29 rfl 1 rfl ?_
    refine zs_aload_n dX11_bumpedTrial_30 rfl 0 rfl ?_
    refine zs_getR fl_X11_75 dX11_bumpedTrial_31 (sh_0 hN) rfl ?_
    refine zs_getR fl_X11_170 dX11_bumpedTrial_34 (sh_83 hN) rfl ?_
    refine zs_iload_n dX11_bumpedTrial_37 rfl 1 rfl ?_
    refine zs_ialdG dX11_bumpedTrial_38 (sh_84 hN) ?_
    refine zs_iload_n dX11_bumpedTrial_39 rfl 2 rfl ?_
    refine zs_iadd dX11_bumpedTrial_40 ?_
    refine zs_cS_iR (rest := [.int p1, .ref (zz_a G 89)]) (k_X11_inRateBounds hN _ _) dX11_bumpedTrial_41 ls_X11_291 ok_X11_inRateBounds (Nat.le_of_ble_eq_true rfl) rfl rfl (Nat.le_of_ble_eq_true rfl) (fun r4 => ?_)
    refine zs_iastG dX11_bumpedTrial_44 (sh_89 hN) (fun m5 => ?_)
    refine zs_aload_n dX11_bumpedTrial_45 rfl 0 rfl ?_
    refine zs_getR fl_X11_66 dX11_bumpedTrial_46 (sh_0 hN) rfl ?_
    refine zs_getR fl_X11_176 dX11_bumpedTrial_49 (sh_72 hN) rfl ?_
    refine zs_iload_n dX11_bumpedTrial_52 rfl 1 rfl ?_
    refine zs_ialdG dX11_bumpedTrial_53 (sh_77 hN) ?_
    refine zs_iconst (v := (-1 : Int32)) dX11_bumpedTrial_54 ci_m1 ?_
    refine zs_icmp_eq (tgt := 74) dX11_bumpedTrial_55 (by decide) ?_ ?_
    · refine zs_aload_n dX11_bumpedTrial_74 rfl 0 rfl ?_
      refine zs_getR fl_X11_79 dX11_bumpedTrial_75 (sh_0 hN) rfl ?_
      exact zs_aret dX11_bumpedTrial_78 rfl rfl rfl
    · refine zs_aload_n dX11_bumpedTrial_58 rfl 0 rfl ?_
      refine zs_getR fl_X11_79 dX11_bumpedTrial_59 (sh_0 hN) rfl ?_
      refine zs_aload_n dX11_bumpedTrial_62 rfl 0 rfl ?_
      refine zs_getR fl_X11_66 dX11_bumpedTrial_63 (sh_0 hN) rfl ?_
      refine zs_getR fl_X11_176 dX11_bumpedTrial_66 (sh_72 hN) rfl ?_
      refine zs_iload_n dX11_bumpedTrial_69 rfl 1 rfl ?_
      refine zs_ialdG dX11_bumpedTrial_70 (sh_77 hN) ?_
      refine zs_cV_vW (rest := []) (k_X1_solve hN ((isCurve_88 hN)) _ _) dX11_bumpedTrial_71 lv_X11_272 ok_X1_solve (zz_rcv_o (sh_88 hN) rfl) (Nat.le_of_ble_eq_true rfl) rfl rfl (Nat.le_of_ble_eq_true rfl) (fun m6 => ?_)
      refine zs_aload_n dX11_bumpedTrial_74 rfl 0 rfl ?_
      refine zs_getR fl_X11_79 dX11_bumpedTrial_75 (sh_0 hN) rfl ?_
      exact zs_aret dX11_bumpedTrial_78 rfl rfl rfl
/-! X11_pillars: PillarDesk.pillars()I -/
theorem dX11_pillars_0 : decode cX11_pillars 0 = .ok (.aload_n 0, 1) := by decide +kernel
theorem dX11_pillars_1 : decode cX11_pillars 1 = .ok (.getfield 66, 3) := by decide +kernel
theorem dX11_pillars_4 : decode cX11_pillars 4 = .ok (.getfield 302, 3) := by decide +kernel
theorem dX11_pillars_7 : decode cX11_pillars 7 = .ok (.ireturn, 1) := by decide +kernel
def f_X11_pillars (m : zz_Mem)  : Option Int32 :=
  some (m.1 72 8)
theorem k_X11_pillars {l : Launch} {G : zz_G} (hN : 107 ≤ zz_N G) : ∀ (m : zz_Mem), zz_Con zz_sh l G mX11_pillars 0 [.ref (zz_a G 0)] zz_vIr (zz_mC m) (f_X11_pillars m) m := by
  intro m
  refine zz_con (lv := [(0, .ref (zz_a G 0))]) (by decide +kernel) (Nat.le_of_ble_eq_true rfl) rfl ?_
  unfold f_X11_pillars
  refine zs_aload_n dX11_pillars_0 rfl 0 rfl ?_
  refine zs_getR fl_X11_66 dX11_pillars_1 (sh_0 hN) rfl ?_
  refine zs_getI fl_X11_302 dX11_pillars_4 (sh_72 hN) rfl ?_
  exact zs_iret dX11_pillars_7 rfl rfl rfl
/-! X11_pillar: PillarDesk.pillar(II)I -/
theorem dX11_pillar_0 : decode cX11_pillar 0 = .ok (.aload_n 0, 1) := by decide +kernel
theorem dX11_pillar_1 : decode cX11_pillar 1 = .ok (.getfield 66, 3) := by decide +kernel
theorem dX11_pillar_4 : decode cX11_pillar 4 = .ok (.iload_n 1, 1) := by decide +kernel
theorem dX11_pillar_5 : decode cX11_pillar 5 = .ok (.invokevirtual 305, 3) := by decide +kernel
theorem dX11_pillar_8 : decode cX11_pillar 8 = .ok (.ifCond .ne 6, 3) := by decide +kernel
theorem dX11_pillar_11 : decode cX11_pillar 11 = .ok (.bipush (-2), 2) := by decide +kernel
theorem dX11_pillar_13 : decode cX11_pillar 13 = .ok (.ireturn, 1) := by decide +kernel
theorem dX11_pillar_14 : decode cX11_pillar 14 = .ok (.iload_n 2, 1) := by decide +kernel
theorem dX11_pillar_15 : decode cX11_pillar 15 = .ok (.tableswitch 55 0 2 #[25, 35, 45], 25) := by decide +kernel
theorem dX11_pillar_40 : decode cX11_pillar 40 = .ok (.aload_n 0, 1) := by decide +kernel
theorem dX11_pillar_41 : decode cX11_pillar 41 = .ok (.getfield 66, 3) := by decide +kernel
theorem dX11_pillar_44 : decode cX11_pillar 44 = .ok (.getfield 308, 3) := by decide +kernel
theorem dX11_pillar_47 : decode cX11_pillar 47 = .ok (.iload_n 1, 1) := by decide +kernel
theorem dX11_pillar_48 : decode cX11_pillar 48 = .ok (.iaload, 1) := by decide +kernel
theorem dX11_pillar_49 : decode cX11_pillar 49 = .ok (.ireturn, 1) := by decide +kernel
theorem dX11_pillar_50 : decode cX11_pillar 50 = .ok (.aload_n 0, 1) := by decide +kernel
theorem dX11_pillar_51 : decode cX11_pillar 51 = .ok (.invokevirtual 166, 3) := by decide +kernel
theorem dX11_pillar_54 : decode cX11_pillar 54 = .ok (.getfield 311, 3) := by decide +kernel
theorem dX11_pillar_57 : decode cX11_pillar 57 = .ok (.iload_n 1, 1) := by decide +kernel
theorem dX11_pillar_58 : decode cX11_pillar 58 = .ok (.iaload, 1) := by decide +kernel
theorem dX11_pillar_59 : decode cX11_pillar 59 = .ok (.ireturn, 1) := by decide +kernel
theorem dX11_pillar_60 : decode cX11_pillar 60 = .ok (.aload_n 0, 1) := by decide +kernel
theorem dX11_pillar_61 : decode cX11_pillar 61 = .ok (.getfield 66, 3) := by decide +kernel
theorem dX11_pillar_64 : decode cX11_pillar 64 = .ok (.getfield 314, 3) := by decide +kernel
theorem dX11_pillar_67 : decode cX11_pillar 67 = .ok (.iload_n 1, 1) := by decide +kernel
theorem dX11_pillar_68 : decode cX11_pillar 68 = .ok (.iaload, 1) := by decide +kernel
theorem dX11_pillar_69 : decode cX11_pillar 69 = .ok (.ireturn, 1) := by decide +kernel
theorem dX11_pillar_70 : decode cX11_pillar 70 = .ok (.bipush (-2), 2) := by decide +kernel
theorem dX11_pillar_72 : decode cX11_pillar 72 = .ok (.ireturn, 1) := by decide +kernel
def f_X11_pillar  (p1 : Int32) (p2 : Int32) (m : zz_Mem) : Option (Int32 × zz_Mem) :=
  zz_bndR (f_X8_hasPillar m p1) fun r1 =>
  if r1 = 0 then (
  some ((-2 : Int32), m))
  else (
  if p2 = (0 : Int32) then (
  zz_ix p1 9 <|
  some (m.1 79 p1.toNatClampNeg, m))
  else if p2 = (1 : Int32) then (
  zz_bndR (f_X11_solvedNow m) fun m4 =>
  zz_ix p1 9 <|
  some (m4.1 85 p1.toNatClampNeg, m4))
  else if p2 = (2 : Int32) then (
  zz_ix p1 9 <|
  some (m.1 80 p1.toNatClampNeg, m))
  else (
  some ((-2 : Int32), m)))
theorem k_X11_pillar {l : Launch} {G : zz_G} (hN : 107 ≤ zz_N G) : ∀ (p1 : Int32) (p2 : Int32) (m : zz_Mem), zz_Con zz_sh l G mX11_pillar 6 [.ref (zz_a G 0), .int p1, .int p2] zz_vI zz_m2 (f_X11_pillar p1 p2 m) m := by
  intro p1 p2 m
  refine zz_con (lv := [(0, .ref (zz_a G 0)), (1, .int p1), (2, .int p2)]) (by decide +kernel) (Nat.le_of_ble_eq_true rfl) rfl ?_
  unfold f_X11_pillar
  refine zs_aload_n dX11_pillar_0 rfl 0 rfl ?_
  refine zs_getR fl_X11_66 dX11_pillar_1 (sh_0 hN) rfl ?_
  refine zs_iload_n dX11_pillar_4 rfl 1 rfl ?_
  refine zs_cV_iR (rest := []) (k_X8_hasPillar hN _ _) dX11_pillar_5 lv_X11_305 ok_X8_hasPillar (zz_rcv_o (sh_72 hN) rfl) (Nat.le_of_ble_eq_true rfl) rfl rfl (Nat.le_of_ble_eq_true rfl) (fun r1 => ?_)
  refine zs_if_ne (tgt := 14) dX11_pillar_8 (by decide) ?_ ?_
  · refine zs_iload_n dX11_pillar_14 rfl 2 rfl ?_
    refine zs_ite (fun h2 => ?_) (fun h2 => ?_)
    · refine zs_tswI (tgt := 40) h2 dX11_pillar_15 (by decide) (by decide) rfl (by decide) ?_
      refine zs_aload_n dX11_pillar_40 rfl 0 rfl ?_
      refine zs_getR fl_X11_66 dX11_pillar_41 (sh_0 hN) rfl ?_
      refine zs_getR fl_X11_308 dX11_pillar_44 (sh_72 hN) rfl ?_
      refine zs_iload_n dX11_pillar_47 rfl 1 rfl ?_
      refine zs_ialdG dX11_pillar_48 (sh_79 hN) ?_
      exact zs_iret dX11_pillar_49 rfl rfl rfl
    refine zs_ite (fun h3 => ?_) (fun h3 => ?_)
    · refine zs_tswI (tgt := 50) h3 dX11_pillar_15 (by decide) (by decide) rfl (by decide) ?_
      refine zs_aload_n dX11_pillar_50 rfl 0 rfl ?_
      refine zs_cV_aW (rest := []) (k_X11_solvedNow hN  _) dX11_pillar_51 lv_X11_166 ok_X11_solvedNow (zz_rcv_o (sh_0 hN) rfl) (Nat.le_of_ble_eq_true rfl) rfl rfl (Nat.le_of_ble_eq_true rfl) (fun m4 => ?_)
      refine zs_getR fl_X11_311 dX11_pillar_54 (sh_83 hN) rfl ?_
      refine zs_iload_n dX11_pillar_57 rfl 1 rfl ?_
      refine zs_ialdG dX11_pillar_58 (sh_85 hN) ?_
      exact zs_iret dX11_pillar_59 rfl rfl rfl
    refine zs_ite (fun h5 => ?_) (fun h5 => ?_)
    · refine zs_tswI (tgt := 60) h5 dX11_pillar_15 (by decide) (by decide) rfl (by decide) ?_
      refine zs_aload_n dX11_pillar_60 rfl 0 rfl ?_
      refine zs_getR fl_X11_66 dX11_pillar_61 (sh_0 hN) rfl ?_
      refine zs_getR fl_X11_314 dX11_pillar_64 (sh_72 hN) rfl ?_
      refine zs_iload_n dX11_pillar_67 rfl 1 rfl ?_
      refine zs_ialdG dX11_pillar_68 (sh_80 hN) ?_
      exact zs_iret dX11_pillar_69 rfl rfl rfl
    refine zs_tswO (tgt := 70) dX11_pillar_15 (by have eh2 := lv_neT h2 (a := 0) rfl; have eh3 := lv_neT h3 (a := 1) rfl; have eh5 := lv_neT h5 (a := 2) rfl; omega) (by decide) ?_
    refine zs_bipush (v := (-2 : Int32)) dX11_pillar_70 cb_m2 ?_
    exact zs_iret dX11_pillar_72 rfl rfl rfl
  · refine zs_bipush (v := (-2 : Int32)) dX11_pillar_11 cb_m2 ?_
    exact zs_iret dX11_pillar_13 rfl rfl rfl
/-! X11_factor: PillarDesk.factor(I)I -/
theorem dX11_factor_0 : decode cX11_factor 0 = .ok (.iload_n 1, 1) := by decide +kernel
theorem dX11_factor_1 : decode cX11_factor 1 = .ok (.ifCond .lt 10, 3) := by decide +kernel
theorem dX11_factor_4 : decode cX11_factor 4 = .ok (.iload_n 1, 1) := by decide +kernel
theorem dX11_factor_5 : decode cX11_factor 5 = .ok (.sipush 9999, 3) := by decide +kernel
theorem dX11_factor_8 : decode cX11_factor 8 = .ok (.if_icmp .le 8, 3) := by decide +kernel
theorem dX11_factor_11 : decode cX11_factor 11 = .ok (.bipush (-3), 2) := by decide +kernel
theorem dX11_factor_13 : decode cX11_factor 13 = .ok (.goto 11, 3) := by decide +kernel
theorem dX11_factor_16 : decode cX11_factor 16 = .ok (.aload_n 0, 1) := by decide +kernel
theorem dX11_factor_17 : decode cX11_factor 17 = .ok (.invokevirtual 166, 3) := by decide +kernel
theorem dX11_factor_20 : decode cX11_factor 20 = .ok (.iload_n 1, 1) := by decide +kernel
theorem dX11_factor_21 : decode cX11_factor 21 = .ok (.invokevirtual 317, 3) := by decide +kernel
theorem dX11_factor_24 : decode cX11_factor 24 = .ok (.ireturn, 1) := by decide +kernel
def f_X11_factor  (p1 : Int32) (m : zz_Mem) : Option (Int32 × zz_Mem) :=
  if p1 < 0 then (
  some ((-3 : Int32), m))
  else (
  if p1 ≤ (9999 : Int32) then (
  zz_bndR (f_X11_solvedNow m) fun m1 =>
  zz_bndR (f_X1_factorAt 83 m1 p1) fun r2 =>
  some (r2, m1))
  else (
  some ((-3 : Int32), m)))
theorem k_X11_factor {l : Launch} {G : zz_G} (hN : 107 ≤ zz_N G) : ∀ (p1 : Int32) (m : zz_Mem), zz_Con zz_sh l G mX11_factor 6 [.ref (zz_a G 0), .int p1] zz_vI zz_m2 (f_X11_factor p1 m) m := by
  intro p1 m
  refine zz_con (lv := [(0, .ref (zz_a G 0)), (1, .int p1)]) (by decide +kernel) (Nat.le_of_ble_eq_true rfl) rfl ?_
  unfold f_X11_factor
  refine zs_iload_n dX11_factor_0 rfl 1 rfl ?_
  refine zs_if_lt (tgt := 11) dX11_factor_1 (by decide) ?_ ?_
  · refine zs_bipush (v := (-3 : Int32)) dX11_factor_11 cb_m3 ?_
    refine zs_goto (tgt := 24) dX11_factor_13 (by decide) ?_
    exact zs_iret dX11_factor_24 rfl rfl rfl
  · refine zs_iload_n dX11_factor_4 rfl 1 rfl ?_
    refine zs_sipush (v := (9999 : Int32)) dX11_factor_5 cs_9999 ?_
    refine zs_icmp_le (tgt := 16) dX11_factor_8 (by decide) ?_ ?_
    · refine zs_aload_n dX11_factor_16 rfl 0 rfl ?_
      refine zs_cV_aW (rest := []) (k_X11_solvedNow hN  _) dX11_factor_17 lv_X11_166 ok_X11_solvedNow (zz_rcv_o (sh_0 hN) rfl) (Nat.le_of_ble_eq_true rfl) rfl rfl (Nat.le_of_ble_eq_true rfl) (fun m1 => ?_)
      refine zs_iload_n dX11_factor_20 rfl 1 rfl ?_
      refine zs_cV_iR (rest := []) (k_X1_factorAt hN ((isCurve_83 hN)) _ _) dX11_factor_21 lv_X11_317 ok_X1_factorAt (zz_rcv_o (sh_83 hN) rfl) (Nat.le_of_ble_eq_true rfl) rfl rfl (Nat.le_of_ble_eq_true rfl) (fun r2 => ?_)
      exact zs_iret dX11_factor_24 rfl rfl rfl
    · refine zs_bipush (v := (-3 : Int32)) dX11_factor_11 cb_m3 ?_
      refine zs_goto (tgt := 24) dX11_factor_13 (by decide) ?_
      exact zs_iret dX11_factor_24 rfl rfl rfl
/-! X11_forward: PillarDesk.forward(II)I -/
theorem dX11_forward_0 : decode cX11_forward 0 = .ok (.iload_n 1, 1) := by decide +kernel
theorem dX11_forward_1 : decode cX11_forward 1 = .ok (.ifCond .lt 15, 3) := by decide +kernel
theorem dX11_forward_4 : decode cX11_forward 4 = .ok (.iload_n 2, 1) := by decide +kernel
theorem dX11_forward_5 : decode cX11_forward 5 = .ok (.iload_n 1, 1) := by decide +kernel
theorem dX11_forward_6 : decode cX11_forward 6 = .ok (.if_icmp .le 10, 3) := by decide +kernel
theorem dX11_forward_9 : decode cX11_forward 9 = .ok (.iload_n 2, 1) := by decide +kernel
theorem dX11_forward_10 : decode cX11_forward 10 = .ok (.sipush 9999, 3) := by decide +kernel
theorem dX11_forward_13 : decode cX11_forward 13 = .ok (.if_icmp .le 6, 3) := by decide +kernel
theorem dX11_forward_16 : decode cX11_forward 16 = .ok (.bipush (-3), 2) := by decide +kernel
theorem dX11_forward_18 : decode cX11_forward 18 = .ok (.ireturn, 1) := by decide +kernel
theorem dX11_forward_19 : decode cX11_forward 19 = .ok (.aload_n 0, 1) := by decide +kernel
theorem dX11_forward_20 : decode cX11_forward 20 = .ok (.invokevirtual 166, 3) := by decide +kernel
theorem dX11_forward_23 : decode cX11_forward 23 = .ok (.iload_n 1, 1) := by decide +kernel
theorem dX11_forward_24 : decode cX11_forward 24 = .ok (.iload_n 2, 1) := by decide +kernel
theorem dX11_forward_25 : decode cX11_forward 25 = .ok (.invokevirtual 320, 3) := by decide +kernel
theorem dX11_forward_28 : decode cX11_forward 28 = .ok (.ireturn, 1) := by decide +kernel
def f_X11_forward  (p1 : Int32) (p2 : Int32) (m : zz_Mem) : Option (Int32 × zz_Mem) :=
  if p1 < 0 then (
  some ((-3 : Int32), m))
  else (
  if p2 ≤ p1 then (
  some ((-3 : Int32), m))
  else (
  if p2 ≤ (9999 : Int32) then (
  zz_bndR (f_X11_solvedNow m) fun m1 =>
  zz_bndR (f_X1_rateBetween 83 m1 p1 p2) fun r2 =>
  some (r2, m1))
  else (
  some ((-3 : Int32), m))))
theorem k_X11_forward {l : Launch} {G : zz_G} (hN : 107 ≤ zz_N G) : ∀ (p1 : Int32) (p2 : Int32) (m : zz_Mem), zz_Con zz_sh l G mX11_forward 6 [.ref (zz_a G 0), .int p1, .int p2] zz_vI zz_m2 (f_X11_forward p1 p2 m) m := by
  intro p1 p2 m
  refine zz_con (lv := [(0, .ref (zz_a G 0)), (1, .int p1), (2, .int p2)]) (by decide +kernel) (Nat.le_of_ble_eq_true rfl) rfl ?_
  unfold f_X11_forward
  refine zs_iload_n dX11_forward_0 rfl 1 rfl ?_
  refine zs_if_lt (tgt := 16) dX11_forward_1 (by decide) ?_ ?_
  · refine zs_bipush (v := (-3 : Int32)) dX11_forward_16 cb_m3 ?_
    exact zs_iret dX11_forward_18 rfl rfl rfl
  · refine zs_iload_n dX11_forward_4 rfl 2 rfl ?_
    refine zs_iload_n dX11_forward_5 rfl 1 rfl ?_
    refine zs_icmp_le (tgt := 16) dX11_forward_6 (by decide) ?_ ?_
    · refine zs_bipush (v := (-3 : Int32)) dX11_forward_16 cb_m3 ?_
      exact zs_iret dX11_forward_18 rfl rfl rfl
    · refine zs_iload_n dX11_forward_9 rfl 2 rfl ?_
      refine zs_sipush (v := (9999 : Int32)) dX11_forward_10 cs_9999 ?_
      refine zs_icmp_le (tgt := 19) dX11_forward_13 (by decide) ?_ ?_
      · refine zs_aload_n dX11_forward_19 rfl 0 rfl ?_
        refine zs_cV_aW (rest := []) (k_X11_solvedNow hN  _) dX11_forward_20 lv_X11_166 ok_X11_solvedNow (zz_rcv_o (sh_0 hN) rfl) (Nat.le_of_ble_eq_true rfl) rfl rfl (Nat.le_of_ble_eq_true rfl) (fun m1 => ?_)
        refine zs_iload_n dX11_forward_23 rfl 1 rfl ?_
        refine zs_iload_n dX11_forward_24 rfl 2 rfl ?_
        refine zs_cV_iR (rest := []) (k_X1_rateBetween hN ((isCurve_83 hN)) _ _ _) dX11_forward_25 lv_X11_320 ok_X1_rateBetween (zz_rcv_o (sh_83 hN) rfl) (Nat.le_of_ble_eq_true rfl) rfl rfl (Nat.le_of_ble_eq_true rfl) (fun r2 => ?_)
        exact zs_iret dX11_forward_28 rfl rfl rfl
      · refine zs_bipush (v := (-3 : Int32)) dX11_forward_16 cb_m3 ?_
        exact zs_iret dX11_forward_18 rfl rfl rfl
/-! X11_implied: PillarDesk.implied(I)I -/
theorem dX11_implied_0 : decode cX11_implied 0 = .ok (.aload_n 0, 1) := by decide +kernel
theorem dX11_implied_1 : decode cX11_implied 1 = .ok (.getfield 20, 3) := by decide +kernel
theorem dX11_implied_4 : decode cX11_implied 4 = .ok (.iload_n 1, 1) := by decide +kernel
theorem dX11_implied_5 : decode cX11_implied 5 = .ok (.invokevirtual 141, 3) := by decide +kernel
theorem dX11_implied_8 : decode cX11_implied 8 = .ok (.ifCond .ne 6, 3) := by decide +kernel
theorem dX11_implied_11 : decode cX11_implied 11 = .ok (.bipush (-2), 2) := by decide +kernel
theorem dX11_implied_13 : decode cX11_implied 13 = .ok (.ireturn, 1) := by decide +kernel
theorem dX11_implied_14 : decode cX11_implied 14 = .ok (.aload_n 0, 1) := by decide +kernel
theorem dX11_implied_15 : decode cX11_implied 15 = .ok (.getfield 66, 3) := by decide +kernel
theorem dX11_implied_18 : decode cX11_implied 18 = .ok (.getfield 154, 3) := by decide +kernel
theorem dX11_implied_21 : decode cX11_implied 21 = .ok (.iload_n 1, 1) := by decide +kernel
theorem dX11_implied_22 : decode cX11_implied 22 = .ok (.iaload, 1) := by decide +kernel
theorem dX11_implied_23 : decode cX11_implied 23 = .ok (.aload_n 0, 1) := by decide +kernel
theorem dX11_implied_24 : decode cX11_implied 24 = .ok (.getfield 66, 3) := by decide +kernel
theorem dX11_implied_27 : decode cX11_implied 27 = .ok (.getfield 157, 3) := by decide +kernel
theorem dX11_implied_30 : decode cX11_implied 30 = .ok (.iload_n 1, 1) := by decide +kernel
theorem dX11_implied_31 : decode cX11_implied 31 = .ok (.iaload, 1) := by decide +kernel
theorem dX11_implied_32 : decode cX11_implied 32 = .ok (.if_icmp .lt 6, 3) := by decide +kernel
theorem dX11_implied_35 : decode cX11_implied 35 = .ok (.bipush (-5), 2) := by decide +kernel
theorem dX11_implied_37 : decode cX11_implied 37 = .ok (.ireturn, 1) := by decide +kernel
theorem dX11_implied_38 : decode cX11_implied 38 = .ok (.aload_n 0, 1) := by decide +kernel
theorem dX11_implied_39 : decode cX11_implied 39 = .ok (.getfield 20, 3) := by decide +kernel
theorem dX11_implied_42 : decode cX11_implied 42 = .ok (.getfield 145, 3) := by decide +kernel
theorem dX11_implied_45 : decode cX11_implied 45 = .ok (.iload_n 1, 1) := by decide +kernel
theorem dX11_implied_46 : decode cX11_implied 46 = .ok (.iaload, 1) := by decide +kernel
theorem dX11_implied_47 : decode cX11_implied 47 = .ok (.iconst 2, 1) := by decide +kernel
theorem dX11_implied_48 : decode cX11_implied 48 = .ok (.if_icmp .ne 12, 3) := by decide +kernel
theorem dX11_implied_51 : decode cX11_implied 51 = .ok (.aload_n 0, 1) := by decide +kernel
theorem dX11_implied_52 : decode cX11_implied 52 = .ok (.invokevirtual 166, 3) := by decide +kernel
theorem dX11_implied_55 : decode cX11_implied 55 = .ok (.iload_n 1, 1) := by decide +kernel
theorem dX11_implied_56 : decode cX11_implied 56 = .ok (.invokevirtual 323, 3) := by decide +kernel
theorem dX11_implied_59 : decode cX11_implied 59 = .ok (.ireturn, 1) := by decide +kernel
theorem dX11_implied_60 : decode cX11_implied 60 = .ok (.aload_n 0, 1) := by decide +kernel
theorem dX11_implied_61 : decode cX11_implied 61 = .ok (.invokevirtual 166, 3) := by decide +kernel
theorem dX11_implied_64 : decode cX11_implied 64 = .ok (.aload_n 0, 1) := by decide +kernel
theorem dX11_implied_65 : decode cX11_implied 65 = .ok (.getfield 66, 3) := by decide +kernel
theorem dX11_implied_68 : decode cX11_implied 68 = .ok (.getfield 154, 3) := by decide +kernel
theorem dX11_implied_71 : decode cX11_implied 71 = .ok (.iload_n 1, 1) := by decide +kernel
theorem dX11_implied_72 : decode cX11_implied 72 = .ok (.iaload, 1) := by decide +kernel
theorem dX11_implied_73 : decode cX11_implied 73 = .ok (.aload_n 0, 1) := by decide +kernel
theorem dX11_implied_74 : decode cX11_implied 74 = .ok (.getfield 66, 3) := by decide +kernel
theorem dX11_implied_77 : decode cX11_implied 77 = .ok (.getfield 157, 3) := by decide +kernel
theorem dX11_implied_80 : decode cX11_implied 80 = .ok (.iload_n 1, 1) := by decide +kernel
theorem dX11_implied_81 : decode cX11_implied 81 = .ok (.iaload, 1) := by decide +kernel
theorem dX11_implied_82 : decode cX11_implied 82 = .ok (.invokevirtual 320, 3) := by decide +kernel
theorem dX11_implied_85 : decode cX11_implied 85 = .ok (.ireturn, 1) := by decide +kernel
def f_X11_implied  (p1 : Int32) (m : zz_Mem) : Option (Int32 × zz_Mem) :=
  zz_bndR (f_X6_hasInput m p1) fun r1 =>
  if r1 = 0 then (
  some ((-2 : Int32), m))
  else (
  zz_ix p1 8 <|
  zz_ix p1 8 <|
  if (m.1 73 p1.toNatClampNeg) < (m.1 74 p1.toNatClampNeg) then (
  zz_ix p1 8 <|
  if (m.1 4 p1.toNatClampNeg) = (2 : Int32) then (
  zz_bndR (f_X11_solvedNow m) fun m4 =>
  zz_bndR (f_X1_swapRate 83 m4 p1) fun r5 =>
  some (r5, m4))
  else (
  zz_bndR (f_X11_solvedNow m) fun m2 =>
  zz_ix p1 8 <|
  zz_ix p1 8 <|
  zz_bndR (f_X1_rateBetween 83 m2 (m2.1 73 p1.toNatClampNeg) (m2.1 74 p1.toNatClampNeg)) fun r3 =>
  some (r3, m2)))
  else (
  some ((-5 : Int32), m)))
theorem k_X11_implied {l : Launch} {G : zz_G} (hN : 107 ≤ zz_N G) : ∀ (p1 : Int32) (m : zz_Mem), zz_Con zz_sh l G mX11_implied 6 [.ref (zz_a G 0), .int p1] zz_vI zz_m2 (f_X11_implied p1 m) m := by
  intro p1 m
  refine zz_con (lv := [(0, .ref (zz_a G 0)), (1, .int p1)]) (by decide +kernel) (Nat.le_of_ble_eq_true rfl) rfl ?_
  unfold f_X11_implied
  refine zs_aload_n dX11_implied_0 rfl 0 rfl ?_
  refine zs_getR fl_X11_20 dX11_implied_1 (sh_0 hN) rfl ?_
  refine zs_iload_n dX11_implied_4 rfl 1 rfl ?_
  refine zs_cV_iR (rest := []) (k_X6_hasInput hN _ _) dX11_implied_5 lv_X11_141 ok_X6_hasInput (zz_rcv_o (sh_2 hN) rfl) (Nat.le_of_ble_eq_true rfl) rfl rfl (Nat.le_of_ble_eq_true rfl) (fun r1 => ?_)
  refine zs_if_ne (tgt := 14) dX11_implied_8 (by decide) ?_ ?_
  · refine zs_aload_n dX11_implied_14 rfl 0 rfl ?_
    refine zs_getR fl_X11_66 dX11_implied_15 (sh_0 hN) rfl ?_
    refine zs_getR fl_X11_154 dX11_implied_18 (sh_72 hN) rfl ?_
    refine zs_iload_n dX11_implied_21 rfl 1 rfl ?_
    refine zs_ialdG dX11_implied_22 (sh_73 hN) ?_
    refine zs_aload_n dX11_implied_23 rfl 0 rfl ?_
    refine zs_getR fl_X11_66 dX11_implied_24 (sh_0 hN) rfl ?_
    refine zs_getR fl_X11_157 dX11_implied_27 (sh_72 hN) rfl ?_
    refine zs_iload_n dX11_implied_30 rfl 1 rfl ?_
    refine zs_ialdG dX11_implied_31 (sh_74 hN) ?_
    refine zs_icmp_lt (tgt := 38) dX11_implied_32 (by decide) ?_ ?_
    · refine zs_aload_n dX11_implied_38 rfl 0 rfl ?_
      refine zs_getR fl_X11_20 dX11_implied_39 (sh_0 hN) rfl ?_
      refine zs_getR fl_X11_145 dX11_implied_42 (sh_2 hN) rfl ?_
      refine zs_iload_n dX11_implied_45 rfl 1 rfl ?_
      refine zs_ialdG dX11_implied_46 (sh_4 hN) ?_
      refine zs_iconst (v := (2 : Int32)) dX11_implied_47 ci_2 ?_
      refine zs_icmp_ne (tgt := 60) dX11_implied_48 (by decide) ?_ ?_
      · refine zs_aload_n dX11_implied_60 rfl 0 rfl ?_
        refine zs_cV_aW (rest := []) (k_X11_solvedNow hN  _) dX11_implied_61 lv_X11_166 ok_X11_solvedNow (zz_rcv_o (sh_0 hN) rfl) (Nat.le_of_ble_eq_true rfl) rfl rfl (Nat.le_of_ble_eq_true rfl) (fun m2 => ?_)
        refine zs_aload_n dX11_implied_64 rfl 0 rfl ?_
        refine zs_getR fl_X11_66 dX11_implied_65 (sh_0 hN) rfl ?_
        refine zs_getR fl_X11_154 dX11_implied_68 (sh_72 hN) rfl ?_
        refine zs_iload_n dX11_implied_71 rfl 1 rfl ?_
        refine zs_ialdG dX11_implied_72 (sh_73 hN) ?_
        refine zs_aload_n dX11_implied_73 rfl 0 rfl ?_
        refine zs_getR fl_X11_66 dX11_implied_74 (sh_0 hN) rfl ?_
        refine zs_getR fl_X11_157 dX11_implied_77 (sh_72 hN) rfl ?_
        refine zs_iload_n dX11_implied_80 rfl 1 rfl ?_
        refine zs_ialdG dX11_implied_81 (sh_74 hN) ?_
        refine zs_cV_iR (rest := []) (k_X1_rateBetween hN ((isCurve_83 hN)) _ _ _) dX11_implied_82 lv_X11_320 ok_X1_rateBetween (zz_rcv_o (sh_83 hN) rfl) (Nat.le_of_ble_eq_true rfl) rfl rfl (Nat.le_of_ble_eq_true rfl) (fun r3 => ?_)
        exact zs_iret dX11_implied_85 rfl rfl rfl
      · refine zs_aload_n dX11_implied_51 rfl 0 rfl ?_
        refine zs_cV_aW (rest := []) (k_X11_solvedNow hN  _) dX11_implied_52 lv_X11_166 ok_X11_solvedNow (zz_rcv_o (sh_0 hN) rfl) (Nat.le_of_ble_eq_true rfl) rfl rfl (Nat.le_of_ble_eq_true rfl) (fun m4 => ?_)
        refine zs_iload_n dX11_implied_55 rfl 1 rfl ?_
        refine zs_cV_iR (rest := []) (k_X1_swapRate hN ((isCurve_83 hN)) _ _) dX11_implied_56 lv_X11_323 ok_X1_swapRate (zz_rcv_o (sh_83 hN) rfl) (Nat.le_of_ble_eq_true rfl) rfl rfl (Nat.le_of_ble_eq_true rfl) (fun r5 => ?_)
        exact zs_iret dX11_implied_59 rfl rfl rfl
    · refine zs_bipush (v := (-5 : Int32)) dX11_implied_35 cb_m5 ?_
      exact zs_iret dX11_implied_37 rfl rfl rfl
  · refine zs_bipush (v := (-2 : Int32)) dX11_implied_11 cb_m2 ?_
    exact zs_iret dX11_implied_13 rfl rfl rfl
/-! X11_sound: PillarDesk.sound()I -/
theorem dX11_sound_0 : decode cX11_sound 0 = .ok (.aload_n 0, 1) := by decide +kernel
theorem dX11_sound_1 : decode cX11_sound 1 = .ok (.invokevirtual 166, 3) := by decide +kernel
theorem dX11_sound_4 : decode cX11_sound 4 = .ok (.astore_n 1, 1) := by decide +kernel
theorem dX11_sound_5 : decode cX11_sound 5 = .ok (.iconst 1, 1) := by decide +kernel
theorem dX11_sound_6 : decode cX11_sound 6 = .ok (.istore_n 2, 1) := by decide +kernel
theorem dX11_sound_7 : decode cX11_sound 7 = .ok (.iload_n 2, 1) := by decide +kernel
theorem dX11_sound_8 : decode cX11_sound 8 = .ok (.aload_n 0, 1) := by decide +kernel
theorem dX11_sound_9 : decode cX11_sound 9 = .ok (.getfield 66, 3) := by decide +kernel
theorem dX11_sound_12 : decode cX11_sound 12 = .ok (.getfield 302, 3) := by decide +kernel
theorem dX11_sound_15 : decode cX11_sound 15 = .ok (.if_icmp .ge 28, 3) := by decide +kernel
theorem dX11_sound_18 : decode cX11_sound 18 = .ok (.aload_n 1, 1) := by decide +kernel
theorem dX11_sound_19 : decode cX11_sound 19 = .ok (.getfield 311, 3) := by decide +kernel
theorem dX11_sound_22 : decode cX11_sound 22 = .ok (.iload_n 2, 1) := by decide +kernel
theorem dX11_sound_23 : decode cX11_sound 23 = .ok (.iaload, 1) := by decide +kernel
theorem dX11_sound_24 : decode cX11_sound 24 = .ok (.aload_n 1, 1) := by decide +kernel
theorem dX11_sound_25 : decode cX11_sound 25 = .ok (.getfield 311, 3) := by decide +kernel
theorem dX11_sound_28 : decode cX11_sound 28 = .ok (.iload_n 2, 1) := by decide +kernel
theorem dX11_sound_29 : decode cX11_sound 29 = .ok (.iconst 1, 1) := by decide +kernel
theorem dX11_sound_30 : decode cX11_sound 30 = .ok (.isub, 1) := by decide +kernel
theorem dX11_sound_31 : decode cX11_sound 31 = .ok (.iaload, 1) := by decide +kernel
theorem dX11_sound_32 : decode cX11_sound 32 = .ok (.if_icmp .le 5, 3) := by decide +kernel
theorem dX11_sound_35 : decode cX11_sound 35 = .ok (.iconst 0, 1) := by decide +kernel
theorem dX11_sound_36 : decode cX11_sound 36 = .ok (.ireturn, 1) := by decide +kernel
theorem dX11_sound_37 : decode cX11_sound 37 = .ok (.iinc 2 1, 3) := by decide +kernel
theorem dX11_sound_40 : decode cX11_sound 40 = .ok (.goto (-33), 3) := by decide +kernel
theorem dX11_sound_43 : decode cX11_sound 43 = .ok (.iconst 1, 1) := by decide +kernel
theorem dX11_sound_44 : decode cX11_sound 44 = .ok (.ireturn, 1) := by decide +kernel
def f_X11_sound_7   : Nat → Int32 → zz_Mem → Option (Int32 × zz_Mem)
  | 0, _, _ => none
  | n + 1, v2, m =>
  if (m.1 72 8) ≤ v2 then (
  some ((1 : Int32), m))
  else (
  zz_ix v2 9 <|
  zz_ix (v2 - (1 : Int32)) 9 <|
  if (m.1 85 v2.toNatClampNeg) ≤ (m.1 85 (v2 - (1 : Int32)).toNatClampNeg) then (
  zz_letI (v2 + (1 : Int32)) fun x1 =>
  f_X11_sound_7 n x1 m)
  else (
  some ((0 : Int32), m)))
theorem t_X11_sound_7 {l : Launch} {G : zz_G} (hN : 107 ≤ zz_N G)  : ∀ (n : Nat) (v2 : Int32) (m : zz_Mem), zz_Sim zz_sh l G mX11_sound 6 zz_vI zz_m2 (f_X11_sound_7 n v2 m) 7 [(0, .ref (zz_a G 0)), (1, .ref (zz_a G 83)), (2, .int v2)] [] m := by
  intro n
  induction n with
  | zero => intro _ _; exact zs_none
  | succ n ih =>
    intro v2 m
    rw [f_X11_sound_7]
    refine zs_iload_n dX11_sound_7 rfl 2 rfl ?_
    refine zs_aload_n dX11_sound_8 rfl 0 rfl ?_
    refine zs_getR fl_X11_66 dX11_sound_9 (sh_0 hN) rfl ?_
    refine zs_getI fl_X11_302 dX11_sound_12 (sh_72 hN) rfl ?_
    refine zs_icmp_ge (tgt := 43) dX11_sound_15 (by decide) ?_ ?_
    · refine zs_iconst (v := (1 : Int32)) dX11_sound_43 ci_1 ?_
      exact zs_iret dX11_sound_44 rfl rfl rfl
    · refine zs_aload_n dX11_sound_18 rfl 1 rfl ?_
      refine zs_getR fl_X11_311 dX11_sound_19 (sh_83 hN) rfl ?_
      refine zs_iload_n dX11_sound_22 rfl 2 rfl ?_
      refine zs_ialdG dX11_sound_23 (sh_85 hN) ?_
      refine zs_aload_n dX11_sound_24 rfl 1 rfl ?_
      refine zs_getR fl_X11_311 dX11_sound_25 (sh_83 hN) rfl ?_
      refine zs_iload_n dX11_sound_28 rfl 2 rfl ?_
      refine zs_iconst (v := (1 : Int32)) dX11_sound_29 ci_1 ?_
      refine zs_isub dX11_sound_30 ?_
      refine zs_ialdG dX11_sound_31 (sh_85 hN) ?_
      refine zs_icmp_le (tgt := 37) dX11_sound_32 (by decide) ?_ ?_
      · refine zs_iinc (fun y => [(2, .int y), (0, .ref (zz_a G 0)), (1, .ref (zz_a G 83))]) dX11_sound_37 2 rfl ci_1 (Nat.le_of_ble_eq_true rfl) (fun _ => rfl) (fun x1 => ?_)
        refine zs_goto (tgt := 7) dX11_sound_40 (by decide) ?_
        refine zs_sub [1, 2, 0] rfl ?_
        exact ih _ _
      · refine zs_iconst (v := (0 : Int32)) dX11_sound_35 ci_0 ?_
        exact zs_iret dX11_sound_36 rfl rfl rfl
def f_X11_sound   (m : zz_Mem) : Option (Int32 × zz_Mem) :=
  zz_bndR (f_X11_solvedNow m) fun m1 =>
  f_X11_sound_7 zz_fuel (1 : Int32) m1
theorem k_X11_sound {l : Launch} {G : zz_G} (hN : 107 ≤ zz_N G) : ∀ (m : zz_Mem), zz_Con zz_sh l G mX11_sound 6 [.ref (zz_a G 0)] zz_vI zz_m2 (f_X11_sound m) m := by
  intro m
  refine zz_con (lv := [(0, .ref (zz_a G 0))]) (by decide +kernel) (Nat.le_of_ble_eq_true rfl) rfl ?_
  unfold f_X11_sound
  refine zs_aload_n dX11_sound_0 rfl 0 rfl ?_
  refine zs_cV_aW (rest := []) (k_X11_solvedNow hN  _) dX11_sound_1 lv_X11_166 ok_X11_solvedNow (zz_rcv_o (sh_0 hN) rfl) (Nat.le_of_ble_eq_true rfl) rfl rfl (Nat.le_of_ble_eq_true rfl) (fun m1 => ?_)
  refine zs_astore_n [(1, .ref (zz_a G 83)), (0, .ref (zz_a G 0))] dX11_sound_4 rfl (Nat.le_of_ble_eq_true rfl) rfl ?_
  refine zs_iconst (v := (1 : Int32)) dX11_sound_5 ci_1 ?_
  refine zs_istore_n [(2, .int (1 : Int32)), (1, .ref (zz_a G 83)), (0, .ref (zz_a G 0))] dX11_sound_6 rfl (Nat.le_of_ble_eq_true rfl) rfl ?_
  refine zs_sub [2, 1, 0] rfl ?_
  exact t_X11_sound_7 hN zz_fuel _ _
/-! X11_falls: PillarDesk.falls(II)I -/
theorem dX11_falls_0 : decode cX11_falls 0 = .ok (.aload_n 0, 1) := by decide +kernel
theorem dX11_falls_1 : decode cX11_falls 1 = .ok (.getfield 20, 3) := by decide +kernel
theorem dX11_falls_4 : decode cX11_falls 4 = .ok (.iload_n 1, 1) := by decide +kernel
theorem dX11_falls_5 : decode cX11_falls 5 = .ok (.invokevirtual 141, 3) := by decide +kernel
theorem dX11_falls_8 : decode cX11_falls 8 = .ok (.ifCond .ne 6, 3) := by decide +kernel
theorem dX11_falls_11 : decode cX11_falls 11 = .ok (.bipush (-2), 2) := by decide +kernel
theorem dX11_falls_13 : decode cX11_falls 13 = .ok (.ireturn, 1) := by decide +kernel
theorem dX11_falls_14 : decode cX11_falls 14 = .ok (.iload_n 2, 1) := by decide +kernel
theorem dX11_falls_15 : decode cX11_falls 15 = .ok (.ifCond .lt 10, 3) := by decide +kernel
theorem dX11_falls_18 : decode cX11_falls 18 = .ok (.iload_n 2, 1) := by decide +kernel
theorem dX11_falls_19 : decode cX11_falls 19 = .ok (.sipush 9999, 3) := by decide +kernel
theorem dX11_falls_22 : decode cX11_falls 22 = .ok (.if_icmp .le 6, 3) := by decide +kernel
theorem dX11_falls_25 : decode cX11_falls 25 = .ok (.bipush (-3), 2) := by decide +kernel
theorem dX11_falls_27 : decode cX11_falls 27 = .ok (.ireturn, 1) := by decide +kernel
theorem dX11_falls_28 : decode cX11_falls 28 = .ok (.aload_n 0, 1) := by decide +kernel
theorem dX11_falls_29 : decode cX11_falls 29 = .ok (.invokevirtual 166, 3) := by decide +kernel
theorem dX11_falls_32 : decode cX11_falls 32 = .ok (.iload_n 2, 1) := by decide +kernel
theorem dX11_falls_33 : decode cX11_falls 33 = .ok (.invokevirtual 317, 3) := by decide +kernel
theorem dX11_falls_36 : decode cX11_falls 36 = .ok (.aload_n 0, 1) := by decide +kernel
theorem dX11_falls_37 : decode cX11_falls 37 = .ok (.iload_n 1, 1) := by decide +kernel
theorem dX11_falls_38 : decode cX11_falls 38 = .ok (.iconst 1, 1) := by decide +kernel
theorem dX11_falls_39 : decode cX11_falls 39 = .ok (.invokevirtual 326, 3) := by decide +kernel
theorem dX11_falls_42 : decode cX11_falls 42 = .ok (.iload_n 2, 1) := by decide +kernel
theorem dX11_falls_43 : decode cX11_falls 43 = .ok (.invokevirtual 317, 3) := by decide +kernel
theorem dX11_falls_46 : decode cX11_falls 46 = .ok (.isub, 1) := by decide +kernel
theorem dX11_falls_47 : decode cX11_falls 47 = .ok (.ireturn, 1) := by decide +kernel
def f_X11_falls  (p1 : Int32) (p2 : Int32) (m : zz_Mem) : Option (Int32 × zz_Mem) :=
  zz_bndR (f_X6_hasInput m p1) fun r1 =>
  if r1 = 0 then (
  some ((-2 : Int32), m))
  else (
  if p2 < 0 then (
  some ((-3 : Int32), m))
  else (
  if p2 ≤ (9999 : Int32) then (
  zz_bndR (f_X11_solvedNow m) fun m2 =>
  zz_bndR (f_X1_factorAt 83 m2 p2) fun r3 =>
  zz_bndR (f_X11_bumpedTrial p1 (1 : Int32) m2) fun m4 =>
  zz_bndR (f_X1_factorAt 88 m4 p2) fun r5 =>
  some (r3 - r5, m4))
  else (
  some ((-3 : Int32), m))))
theorem k_X11_falls {l : Launch} {G : zz_G} (hN : 107 ≤ zz_N G) : ∀ (p1 : Int32) (p2 : Int32) (m : zz_Mem), zz_Con zz_sh l G mX11_falls 7 [.ref (zz_a G 0), .int p1, .int p2] zz_vI zz_m2 (f_X11_falls p1 p2 m) m := by
  intro p1 p2 m
  refine zz_con (lv := [(0, .ref (zz_a G 0)), (1, .int p1), (2, .int p2)]) (by decide +kernel) (Nat.le_of_ble_eq_true rfl) rfl ?_
  unfold f_X11_falls
  refine zs_aload_n dX11_falls_0 rfl 0 rfl ?_
  refine zs_getR fl_X11_20 dX11_falls_1 (sh_0 hN) rfl ?_
  refine zs_iload_n dX11_falls_4 rfl 1 rfl ?_
  refine zs_cV_iR (rest := []) (k_X6_hasInput hN _ _) dX11_falls_5 lv_X11_141 ok_X6_hasInput (zz_rcv_o (sh_2 hN) rfl) (Nat.le_of_ble_eq_true rfl) rfl rfl (Nat.le_of_ble_eq_true rfl) (fun r1 => ?_)
  refine zs_if_ne (tgt := 14) dX11_falls_8 (by decide) ?_ ?_
  · refine zs_iload_n dX11_falls_14 rfl 2 rfl ?_
    refine zs_if_lt (tgt := 25) dX11_falls_15 (by decide) ?_ ?_
    · refine zs_bipush (v := (-3 : Int32)) dX11_falls_25 cb_m3 ?_
      exact zs_iret dX11_falls_27 rfl rfl rfl
    · refine zs_iload_n dX11_falls_18 rfl 2 rfl ?_
      refine zs_sipush (v := (9999 : Int32)) dX11_falls_19 cs_9999 ?_
      refine zs_icmp_le (tgt := 28) dX11_falls_22 (by decide) ?_ ?_
      · refine zs_aload_n dX11_falls_28 rfl 0 rfl ?_
        refine zs_cV_aW (rest := []) (k_X11_solvedNow hN  _) dX11_falls_29 lv_X11_166 ok_X11_solvedNow (zz_rcv_o (sh_0 hN) rfl) (Nat.le_of_ble_eq_true rfl) rfl rfl (Nat.le_of_ble_eq_true rfl) (fun m2 => ?_)
        refine zs_iload_n dX11_falls_32 rfl 2 rfl ?_
        refine zs_cV_iR (rest := []) (k_X1_factorAt hN ((isCurve_83 hN)) _ _) dX11_falls_33 lv_X11_317 ok_X1_factorAt (zz_rcv_o (sh_83 hN) rfl) (Nat.le_of_ble_eq_true rfl) rfl rfl (Nat.le_of_ble_eq_true rfl) (fun r3 => ?_)
        refine zs_aload_n dX11_falls_36 rfl 0 rfl ?_
        refine zs_iload_n dX11_falls_37 rfl 1 rfl ?_
        refine zs_iconst (v := (1 : Int32)) dX11_falls_38 ci_1 ?_
        refine zs_cV_aW (rest := [.int r3]) (k_X11_bumpedTrial hN _ _ _) dX11_falls_39 lv_X11_326 ok_X11_bumpedTrial (zz_rcv_o (sh_0 hN) rfl) (Nat.le_of_ble_eq_true rfl) rfl rfl (Nat.le_of_ble_eq_true rfl) (fun m4 => ?_)
        refine zs_iload_n dX11_falls_42 rfl 2 rfl ?_
        refine zs_cV_iR (rest := [.int r3]) (k_X1_factorAt hN ((isCurve_88 hN)) _ _) dX11_falls_43 lv_X11_317 ok_X1_factorAt (zz_rcv_o (sh_88 hN) rfl) (Nat.le_of_ble_eq_true rfl) rfl rfl (Nat.le_of_ble_eq_true rfl) (fun r5 => ?_)
        refine zs_isub dX11_falls_46 ?_
        exact zs_iret dX11_falls_47 rfl rfl rfl
      · refine zs_bipush (v := (-3 : Int32)) dX11_falls_25 cb_m3 ?_
        exact zs_iret dX11_falls_27 rfl rfl rfl
  · refine zs_bipush (v := (-2 : Int32)) dX11_falls_11 cb_m2 ?_
    exact zs_iret dX11_falls_13 rfl rfl rfl
/-! X11_moves: PillarDesk.moves(I)I -/
theorem dX11_moves_0 : decode cX11_moves 0 = .ok (.aload_n 0, 1) := by decide +kernel
theorem dX11_moves_1 : decode cX11_moves 1 = .ok (.getfield 20, 3) := by decide +kernel
theorem dX11_moves_4 : decode cX11_moves 4 = .ok (.iload_n 1, 1) := by decide +kernel
theorem dX11_moves_5 : decode cX11_moves 5 = .ok (.invokevirtual 141, 3) := by decide +kernel
theorem dX11_moves_8 : decode cX11_moves 8 = .ok (.ifCond .ne 6, 3) := by decide +kernel
theorem dX11_moves_11 : decode cX11_moves 11 = .ok (.bipush (-2), 2) := by decide +kernel
theorem dX11_moves_13 : decode cX11_moves 13 = .ok (.ireturn, 1) := by decide +kernel
theorem dX11_moves_14 : decode cX11_moves 14 = .ok (.aload_n 0, 1) := by decide +kernel
theorem dX11_moves_15 : decode cX11_moves 15 = .ok (.iload_n 1, 1) := by decide +kernel
theorem dX11_moves_16 : decode cX11_moves 16 = .ok (.iconst 1, 1) := by decide +kernel
theorem dX11_moves_17 : decode cX11_moves 17 = .ok (.invokevirtual 326, 3) := by decide +kernel
theorem dX11_moves_20 : decode cX11_moves 20 = .ok (.astore_n 2, 1) := by decide +kernel
theorem dX11_moves_21 : decode cX11_moves 21 = .ok (.iconst 0, 1) := by decide +kernel
theorem dX11_moves_22 : decode cX11_moves 22 = .ok (.istore_n 3, 1) := by decide +kernel
theorem dX11_moves_23 : decode cX11_moves 23 = .ok (.iconst 0, 1) := by decide +kernel
theorem dX11_moves_24 : decode cX11_moves 24 = .ok (.istore 4, 2) := by decide +kernel
theorem dX11_moves_26 : decode cX11_moves 26 = .ok (.iload 4, 2) := by decide +kernel
theorem dX11_moves_28 : decode cX11_moves 28 = .ok (.aload_n 0, 1) := by decide +kernel
theorem dX11_moves_29 : decode cX11_moves 29 = .ok (.getfield 66, 3) := by decide +kernel
theorem dX11_moves_32 : decode cX11_moves 32 = .ok (.getfield 302, 3) := by decide +kernel
theorem dX11_moves_35 : decode cX11_moves 35 = .ok (.if_icmp .ge 36, 3) := by decide +kernel
theorem dX11_moves_38 : decode cX11_moves 38 = .ok (.aload_n 2, 1) := by decide +kernel
theorem dX11_moves_39 : decode cX11_moves 39 = .ok (.getfield 311, 3) := by decide +kernel
theorem dX11_moves_42 : decode cX11_moves 42 = .ok (.iload 4, 2) := by decide +kernel
theorem dX11_moves_44 : decode cX11_moves 44 = .ok (.iaload, 1) := by decide +kernel
theorem dX11_moves_45 : decode cX11_moves 45 = .ok (.aload_n 0, 1) := by decide +kernel
theorem dX11_moves_46 : decode cX11_moves 46 = .ok (.getfield 75, 3) := by decide +kernel
theorem dX11_moves_49 : decode cX11_moves 49 = .ok (.getfield 311, 3) := by decide +kernel
theorem dX11_moves_52 : decode cX11_moves 52 = .ok (.iload 4, 2) := by decide +kernel
theorem dX11_moves_54 : decode cX11_moves 54 = .ok (.iaload, 1) := by decide +kernel
theorem dX11_moves_55 : decode cX11_moves 55 = .ok (.if_icmp .eq 10, 3) := by decide +kernel
theorem dX11_moves_58 : decode cX11_moves 58 = .ok (.iload_n 3, 1) := by decide +kernel
theorem dX11_moves_59 : decode cX11_moves 59 = .ok (.iconst 1, 1) := by decide +kernel
theorem dX11_moves_60 : decode cX11_moves 60 = .ok (.iload 4, 2) := by decide +kernel
theorem dX11_moves_62 : decode cX11_moves 62 = .ok (.ishl, 1) := by decide +kernel
theorem dX11_moves_63 : decode cX11_moves 63 = .ok (.ior, 1) := by decide +kernel
theorem dX11_moves_64 : decode cX11_moves 64 = .ok (.istore_n 3, 1) := by decide +kernel
theorem dX11_moves_65 : decode cX11_moves 65 = .ok (.iinc 4 1, 3) := by decide +kernel
theorem dX11_moves_68 : decode cX11_moves 68 = .ok (.goto (-42), 3) := by decide +kernel
theorem dX11_moves_71 : decode cX11_moves 71 = .ok (.iload_n 3, 1) := by decide +kernel
theorem dX11_moves_72 : decode cX11_moves 72 = .ok (.ireturn, 1) := by decide +kernel
def f_X11_moves_26   : Nat → Int32 → Int32 → zz_Mem → Option (Int32 × zz_Mem)
  | 0, _, _, _ => none
  | n + 1, v3, v4, m =>
  if (m.1 72 8) ≤ v4 then (
  some (v3, m))
  else (
  zz_ix v4 9 <|
  zz_ix v4 9 <|
  if (m.1 90 v4.toNatClampNeg) = (m.1 85 v4.toNatClampNeg) then (
  zz_letI (v4 + (1 : Int32)) fun x1 =>
  f_X11_moves_26 n v3 x1 m)
  else (
  zz_letI (v3 ||| ((1 : Int32) <<< (v4 &&& 31))) fun x2 =>
  zz_letI (v4 + (1 : Int32)) fun x3 =>
  f_X11_moves_26 n x2 x3 m))
theorem t_X11_moves_26 {l : Launch} {G : zz_G} (hN : 107 ≤ zz_N G)  : ∀ (n : Nat) (v3 : Int32) (v4 : Int32) (m : zz_Mem), zz_Sim zz_sh l G mX11_moves 7 zz_vI zz_m2 (f_X11_moves_26 n v3 v4 m) 26 [(0, .ref (zz_a G 0)), (2, .ref (zz_a G 88)), (3, .int v3), (4, .int v4)] [] m := by
  intro n
  induction n with
  | zero => intro _ _ _; exact zs_none
  | succ n ih =>
    intro v3 v4 m
    rw [f_X11_moves_26]
    refine zs_iload dX11_moves_26 3 rfl ?_
    refine zs_aload_n dX11_moves_28 rfl 0 rfl ?_
    refine zs_getR fl_X11_66 dX11_moves_29 (sh_0 hN) rfl ?_
    refine zs_getI fl_X11_302 dX11_moves_32 (sh_72 hN) rfl ?_
    refine zs_icmp_ge (tgt := 71) dX11_moves_35 (by decide) ?_ ?_
    · refine zs_iload_n dX11_moves_71 rfl 2 rfl ?_
      exact zs_iret dX11_moves_72 rfl rfl rfl
    · refine zs_aload_n dX11_moves_38 rfl 1 rfl ?_
      refine zs_getR fl_X11_311 dX11_moves_39 (sh_88 hN) rfl ?_
      refine zs_iload dX11_moves_42 3 rfl ?_
      refine zs_ialdG dX11_moves_44 (sh_90 hN) ?_
      refine zs_aload_n dX11_moves_45 rfl 0 rfl ?_
      refine zs_getR fl_X11_75 dX11_moves_46 (sh_0 hN) rfl ?_
      refine zs_getR fl_X11_311 dX11_moves_49 (sh_83 hN) rfl ?_
      refine zs_iload dX11_moves_52 3 rfl ?_
      refine zs_ialdG dX11_moves_54 (sh_85 hN) ?_
      refine zs_icmp_eq (tgt := 65) dX11_moves_55 (by decide) ?_ ?_
      · refine zs_iinc (fun y => [(4, .int y), (0, .ref (zz_a G 0)), (2, .ref (zz_a G 88)), (3, .int v3)]) dX11_moves_65 3 rfl ci_1 (Nat.le_of_ble_eq_true rfl) (fun _ => rfl) (fun x1 => ?_)
        refine zs_goto (tgt := 26) dX11_moves_68 (by decide) ?_
        refine zs_sub [1, 2, 3, 0] rfl ?_
        exact ih _ _ _
      · refine zs_iload_n dX11_moves_58 rfl 2 rfl ?_
        refine zs_iconst (v := (1 : Int32)) dX11_moves_59 ci_1 ?_
        refine zs_iload dX11_moves_60 3 rfl ?_
        refine zs_ishl dX11_moves_62 ?_
        refine zs_ior dX11_moves_63 ?_
        refine zs_letI (fun x2 => ?_)
        refine zs_istore_n [(3, .int x2), (0, .ref (zz_a G 0)), (2, .ref (zz_a G 88)), (4, .int v4)] dX11_moves_64 rfl (Nat.le_of_ble_eq_true rfl) rfl ?_
        refine zs_iinc (fun y => [(4, .int y), (3, .int x2), (0, .ref (zz_a G 0)), (2, .ref (zz_a G 88))]) dX11_moves_65 3 rfl ci_1 (Nat.le_of_ble_eq_true rfl) (fun _ => rfl) (fun x3 => ?_)
        refine zs_goto (tgt := 26) dX11_moves_68 (by decide) ?_
        refine zs_sub [2, 3, 1, 0] rfl ?_
        exact ih _ _ _
def f_X11_moves  (p1 : Int32) (m : zz_Mem) : Option (Int32 × zz_Mem) :=
  zz_bndR (f_X6_hasInput m p1) fun r1 =>
  if r1 = 0 then (
  some ((-2 : Int32), m))
  else (
  zz_bndR (f_X11_bumpedTrial p1 (1 : Int32) m) fun m2 =>
  f_X11_moves_26 zz_fuel (0 : Int32) (0 : Int32) m2)
theorem k_X11_moves {l : Launch} {G : zz_G} (hN : 107 ≤ zz_N G) : ∀ (p1 : Int32) (m : zz_Mem), zz_Con zz_sh l G mX11_moves 7 [.ref (zz_a G 0), .int p1] zz_vI zz_m2 (f_X11_moves p1 m) m := by
  intro p1 m
  refine zz_con (lv := [(0, .ref (zz_a G 0)), (1, .int p1)]) (by decide +kernel) (Nat.le_of_ble_eq_true rfl) rfl ?_
  unfold f_X11_moves
  refine zs_aload_n dX11_moves_0 rfl 0 rfl ?_
  refine zs_getR fl_X11_20 dX11_moves_1 (sh_0 hN) rfl ?_
  refine zs_iload_n dX11_moves_4 rfl 1 rfl ?_
  refine zs_cV_iR (rest := []) (k_X6_hasInput hN _ _) dX11_moves_5 lv_X11_141 ok_X6_hasInput (zz_rcv_o (sh_2 hN) rfl) (Nat.le_of_ble_eq_true rfl) rfl rfl (Nat.le_of_ble_eq_true rfl) (fun r1 => ?_)
  refine zs_if_ne (tgt := 14) dX11_moves_8 (by decide) ?_ ?_
  · refine zs_aload_n dX11_moves_14 rfl 0 rfl ?_
    refine zs_iload_n dX11_moves_15 rfl 1 rfl ?_
    refine zs_iconst (v := (1 : Int32)) dX11_moves_16 ci_1 ?_
    refine zs_cV_aW (rest := []) (k_X11_bumpedTrial hN _ _ _) dX11_moves_17 lv_X11_326 ok_X11_bumpedTrial (zz_rcv_o (sh_0 hN) rfl) (Nat.le_of_ble_eq_true rfl) rfl rfl (Nat.le_of_ble_eq_true rfl) (fun m2 => ?_)
    refine zs_astore_n [(2, .ref (zz_a G 88)), (0, .ref (zz_a G 0)), (1, .int p1)] dX11_moves_20 rfl (Nat.le_of_ble_eq_true rfl) rfl ?_
    refine zs_iconst (v := (0 : Int32)) dX11_moves_21 ci_0 ?_
    refine zs_istore_n [(3, .int (0 : Int32)), (2, .ref (zz_a G 88)), (0, .ref (zz_a G 0)), (1, .int p1)] dX11_moves_22 rfl (Nat.le_of_ble_eq_true rfl) rfl ?_
    refine zs_iconst (v := (0 : Int32)) dX11_moves_23 ci_0 ?_
    refine zs_istore [(4, .int (0 : Int32)), (3, .int (0 : Int32)), (2, .ref (zz_a G 88)), (0, .ref (zz_a G 0)), (1, .int p1)] dX11_moves_24 (Nat.le_of_ble_eq_true rfl) rfl ?_
    refine zs_sub [3, 2, 1, 0] rfl ?_
    exact t_X11_moves_26 hN zz_fuel _ _ _
  · refine zs_bipush (v := (-2 : Int32)) dX11_moves_11 cb_m2 ?_
    exact zs_iret dX11_moves_13 rfl rfl rfl
