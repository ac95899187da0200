/-! ===== models and walks: 22.model3 ===== -/
/-! X12_moves: PillarDeskModel.moves(I)I -/
theorem dX12_moves_0 : decode cX12_moves 0 = .ok (.aload_n 0, 1) := by decide +kernel
theorem dX12_moves_1 : decode cX12_moves 1 = .ok (.iconst 0, 1) := by decide +kernel
theorem dX12_moves_2 : decode cX12_moves 2 = .ok (.putfield 1, 3) := by decide +kernel
theorem dX12_moves_5 : decode cX12_moves 5 = .ok (.aload_n 0, 1) := by decide +kernel
theorem dX12_moves_6 : decode cX12_moves 6 = .ok (.iload_n 1, 1) := by decide +kernel
theorem dX12_moves_7 : decode cX12_moves 7 = .ok (.i2l, 1) := by decide +kernel
theorem dX12_moves_8 : decode cX12_moves 8 = .ok (.invokevirtual 262, 3) := by decide +kernel
theorem dX12_moves_11 : decode cX12_moves 11 = .ok (.ifCond .ne 6, 3) := by decide +kernel
theorem dX12_moves_14 : decode cX12_moves 14 = .ok (.bipush (-2), 2) := by decide +kernel
theorem dX12_moves_16 : decode cX12_moves 16 = .ok (.ireturn, 1) := by decide +kernel
theorem dX12_moves_17 : decode cX12_moves 17 = .ok (.aload_n 0, 1) := by decide +kernel
theorem dX12_moves_18 : decode cX12_moves 18 = .ok (.invokevirtual 312, 3) := by decide +kernel
theorem dX12_moves_21 : decode cX12_moves 21 = .ok (.iconst 0, 1) := by decide +kernel
theorem dX12_moves_22 : decode cX12_moves 22 = .ok (.istore_n 2, 1) := by decide +kernel
theorem dX12_moves_23 : decode cX12_moves 23 = .ok (.iload_n 2, 1) := by decide +kernel
theorem dX12_moves_24 : decode cX12_moves 24 = .ok (.aload_n 0, 1) := by decide +kernel
theorem dX12_moves_25 : decode cX12_moves 25 = .ok (.getfield 272, 3) := by decide +kernel
theorem dX12_moves_28 : decode cX12_moves 28 = .ok (.if_icmp .ge 21, 3) := by decide +kernel
theorem dX12_moves_31 : decode cX12_moves 31 = .ok (.aload_n 0, 1) := by decide +kernel
theorem dX12_moves_32 : decode cX12_moves 32 = .ok (.getfield 69, 3) := by decide +kernel
theorem dX12_moves_35 : decode cX12_moves 35 = .ok (.iload_n 2, 1) := by decide +kernel
theorem dX12_moves_36 : decode cX12_moves 36 = .ok (.aload_n 0, 1) := by decide +kernel
theorem dX12_moves_37 : decode cX12_moves 37 = .ok (.getfield 57, 3) := by decide +kernel
theorem dX12_moves_40 : decode cX12_moves 40 = .ok (.iload_n 2, 1) := by decide +kernel
theorem dX12_moves_41 : decode cX12_moves 41 = .ok (.iaload, 1) := by decide +kernel
theorem dX12_moves_42 : decode cX12_moves 42 = .ok (.iastore, 1) := by decide +kernel
theorem dX12_moves_43 : decode cX12_moves 43 = .ok (.iinc 2 1, 3) := by decide +kernel
theorem dX12_moves_46 : decode cX12_moves 46 = .ok (.goto (-23), 3) := by decide +kernel
theorem dX12_moves_49 : decode cX12_moves 49 = .ok (.aload_n 0, 1) := by decide +kernel
theorem dX12_moves_50 : decode cX12_moves 50 = .ok (.iload_n 1, 1) := by decide +kernel
theorem dX12_moves_51 : decode cX12_moves 51 = .ok (.iconst 1, 1) := by decide +kernel
theorem dX12_moves_52 : decode cX12_moves 52 = .ok (.invokevirtual 397, 3) := by decide +kernel
theorem dX12_moves_55 : decode cX12_moves 55 = .ok (.iconst 0, 1) := by decide +kernel
theorem dX12_moves_56 : decode cX12_moves 56 = .ok (.istore_n 2, 1) := by decide +kernel
theorem dX12_moves_57 : decode cX12_moves 57 = .ok (.iconst 0, 1) := by decide +kernel
theorem dX12_moves_58 : decode cX12_moves 58 = .ok (.istore_n 3, 1) := by decide +kernel
theorem dX12_moves_59 : decode cX12_moves 59 = .ok (.iload_n 3, 1) := by decide +kernel
theorem dX12_moves_60 : decode cX12_moves 60 = .ok (.aload_n 0, 1) := by decide +kernel
theorem dX12_moves_61 : decode cX12_moves 61 = .ok (.getfield 272, 3) := by decide +kernel
theorem dX12_moves_64 : decode cX12_moves 64 = .ok (.if_icmp .ge 34, 3) := by decide +kernel
theorem dX12_moves_67 : decode cX12_moves 67 = .ok (.iload_n 2, 1) := by decide +kernel
theorem dX12_moves_68 : decode cX12_moves 68 = .ok (.aload_n 0, 1) := by decide +kernel
theorem dX12_moves_69 : decode cX12_moves 69 = .ok (.getfield 57, 3) := by decide +kernel
theorem dX12_moves_72 : decode cX12_moves 72 = .ok (.iload_n 3, 1) := by decide +kernel
theorem dX12_moves_73 : decode cX12_moves 73 = .ok (.iaload, 1) := by decide +kernel
theorem dX12_moves_74 : decode cX12_moves 74 = .ok (.aload_n 0, 1) := by decide +kernel
theorem dX12_moves_75 : decode cX12_moves 75 = .ok (.getfield 69, 3) := by decide +kernel
theorem dX12_moves_78 : decode cX12_moves 78 = .ok (.iload_n 3, 1) := by decide +kernel
theorem dX12_moves_79 : decode cX12_moves 79 = .ok (.iaload, 1) := by decide +kernel
theorem dX12_moves_80 : decode cX12_moves 80 = .ok (.if_icmp .eq 9, 3) := by decide +kernel
theorem dX12_moves_83 : decode cX12_moves 83 = .ok (.iconst 1, 1) := by decide +kernel
theorem dX12_moves_84 : decode cX12_moves 84 = .ok (.iload_n 3, 1) := by decide +kernel
theorem dX12_moves_85 : decode cX12_moves 85 = .ok (.ishl, 1) := by decide +kernel
theorem dX12_moves_86 : decode cX12_moves 86 = .ok (.goto 4, 3) := by decide +kernel
theorem dX12_moves_89 : decode cX12_moves 89 = .ok (.iconst 0, 1) := by decide +kernel
theorem dX12_moves_90 : decode cX12_moves 90 = .ok (.ior, 1) := by decide +kernel
theorem dX12_moves_91 : decode cX12_moves 91 = .ok (.istore_n 2, 1) := by decide +kernel
theorem dX12_moves_92 : decode cX12_moves 92 = .ok (.iinc 3 1, 3) := by decide +kernel
theorem dX12_moves_95 : decode cX12_moves 95 = .ok (.goto (-36), 3) := by decide +kernel
theorem dX12_moves_98 : decode cX12_moves 98 = .ok (.iload_n 2, 1) := by decide +kernel
theorem dX12_moves_99 : decode cX12_moves 99 = .ok (.ireturn, 1) := by decide +kernel
def f_X12_moves_90  (k59 : Int32 → Int32 → zz_Mem → Option (Int32 × zz_Mem)) (v3 : Int32) (s0 : Int32) (s1 : Int32) (m : zz_Mem) : Option (Int32 × zz_Mem) :=
  zz_letI (s1 ||| s0) fun x1 =>
  zz_letI (v3 + (1 : Int32)) fun x2 =>
  k59 x1 x2 m
theorem t_X12_moves_90 {l : Launch} {G : zz_G} (hN : 26 ≤ zz_N G) {k59 : Int32 → Int32 → zz_Mem → Option (Int32 × zz_Mem)} (hk59 : ∀ (v2 : Int32) (v3 : Int32) (m : zz_Mem), zz_Sim zz_shM l G mX12_moves 6 zz_vI zz_m2 (k59 v2 v3 m) 59 [(0, .ref (zz_a G 0)), (2, .int v2), (3, .int v3)] [] m) : ∀ (v3 : Int32) (s0 : Int32) (s1 : Int32) (m : zz_Mem), zz_Sim zz_shM l G mX12_moves 6 zz_vI zz_m2 (f_X12_moves_90 k59 v3 s0 s1 m) 90 [(0, .ref (zz_a G 0)), (3, .int v3)] [.int s0, .int s1] m := by
  intro v3 s0 s1 m
  unfold f_X12_moves_90
  refine zs_ior dX12_moves_90 ?_
  refine zs_letI (fun x1 => ?_)
  refine zs_istore_n [(2, .int x1), (0, .ref (zz_a G 0)), (3, .int v3)] dX12_moves_91 rfl (Nat.le_of_ble_eq_true rfl) rfl ?_
  refine zs_iinc (fun y => [(3, .int y), (2, .int x1), (0, .ref (zz_a G 0))]) dX12_moves_92 2 rfl ci_1 (Nat.le_of_ble_eq_true rfl) (fun _ => rfl) (fun x2 => ?_)
  refine zs_goto (tgt := 59) dX12_moves_95 (by decide) ?_
  refine zs_sub [2, 1, 0] rfl ?_
  exact hk59 _ _ _
def f_X12_moves_59   : Nat → Int32 → Int32 → zz_Mem → Option (Int32 × zz_Mem)
  | 0, _, _, _ => none
  | n + 1, v2, v3, m =>
  if (m.1 0 28) ≤ v3 then (
  some (v2, m))
  else (
  zz_ix v3 9 <|
  zz_ix v3 9 <|
  if (m.1 14 v3.toNatClampNeg) = (m.1 18 v3.toNatClampNeg) then (
  f_X12_moves_90 (f_X12_moves_59 n) v3 (0 : Int32) v2 m)
  else (
  f_X12_moves_90 (f_X12_moves_59 n) v3 ((1 : Int32) <<< (v3 &&& 31)) v2 m))
theorem t_X12_moves_59 {l : Launch} {G : zz_G} (hN : 26 ≤ zz_N G)  : ∀ (n : Nat) (v2 : Int32) (v3 : Int32) (m : zz_Mem), zz_Sim zz_shM l G mX12_moves 6 zz_vI zz_m2 (f_X12_moves_59 n v2 v3 m) 59 [(0, .ref (zz_a G 0)), (2, .int v2), (3, .int v3)] [] m := by
  intro n
  induction n with
  | zero => intro _ _ _; exact zs_none
  | succ n ih =>
    intro v2 v3 m
    rw [f_X12_moves_59]
    refine zs_iload_n dX12_moves_59 rfl 2 rfl ?_
    refine zs_aload_n dX12_moves_60 rfl 0 rfl ?_
    refine zs_getI fl_X12_272 dX12_moves_61 (shm_0 hN) rfl ?_
    refine zs_icmp_ge (tgt := 98) dX12_moves_64 (by decide) ?_ ?_
    · refine zs_iload_n dX12_moves_98 rfl 1 rfl ?_
      exact zs_iret dX12_moves_99 rfl rfl rfl
    · refine zs_iload_n dX12_moves_67 rfl 1 rfl ?_
      refine zs_aload_n dX12_moves_68 rfl 0 rfl ?_
      refine zs_getR fl_X12_57 dX12_moves_69 (shm_0 hN) rfl ?_
      refine zs_iload_n dX12_moves_72 rfl 2 rfl ?_
      refine zs_ialdG dX12_moves_73 (shm_14 hN) ?_
      refine zs_aload_n dX12_moves_74 rfl 0 rfl ?_
      refine zs_getR fl_X12_69 dX12_moves_75 (shm_0 hN) rfl ?_
      refine zs_iload_n dX12_moves_78 rfl 2 rfl ?_
      refine zs_ialdG dX12_moves_79 (shm_18 hN) ?_
      refine zs_icmp_eq (tgt := 89) dX12_moves_80 (by decide) ?_ ?_
      · refine zs_iconst (v := (0 : Int32)) dX12_moves_89 ci_0 ?_
        refine zs_sub [0, 2] rfl ?_
        exact t_X12_moves_90 hN ih _ _ _ _
      · refine zs_iconst (v := (1 : Int32)) dX12_moves_83 ci_1 ?_
        refine zs_iload_n dX12_moves_84 rfl 2 rfl ?_
        refine zs_ishl dX12_moves_85 ?_
        refine zs_goto (tgt := 90) dX12_moves_86 (by decide) ?_
        refine zs_sub [0, 2] rfl ?_
        exact t_X12_moves_90 hN ih _ _ _ _
def f_X12_moves_49   (v1 : Int32) (m : zz_Mem) : Option (Int32 × zz_Mem) :=
  zz_bndR (f_X12_laysWith v1 (1 : Int32) m) fun m1 =>
  f_X12_moves_59 zz_fuel (0 : Int32) (0 : Int32) m1
theorem t_X12_moves_49 {l : Launch} {G : zz_G} (hN : 26 ≤ zz_N G)  : ∀ (v1 : Int32) (m : zz_Mem), zz_Sim zz_shM l G mX12_moves 6 zz_vI zz_m2 (f_X12_moves_49 v1 m) 49 [(0, .ref (zz_a G 0)), (1, .int v1)] [] m := by
  intro v1 m
  unfold f_X12_moves_49
  refine zs_aload_n dX12_moves_49 rfl 0 rfl ?_
  refine zs_iload_n dX12_moves_50 rfl 1 rfl ?_
  refine zs_iconst (v := (1 : Int32)) dX12_moves_51 ci_1 ?_
  refine zs_cV_vW (rest := []) (k_X12_laysWith hN _ _ _) dX12_moves_52 lv_X12_397 ok_X12_laysWith (zz_rcv_o (shm_0 hN) rfl) (Nat.le_of_ble_eq_true rfl) rfl rfl (Nat.le_of_ble_eq_true rfl) (fun m1 => ?_)
  refine zs_iconst (v := (0 : Int32)) dX12_moves_55 ci_0 ?_
  refine zs_istore_n [(2, .int (0 : Int32)), (0, .ref (zz_a G 0)), (1, .int v1)] dX12_moves_56 rfl (Nat.le_of_ble_eq_true rfl) rfl ?_
  refine zs_iconst (v := (0 : Int32)) dX12_moves_57 ci_0 ?_
  refine zs_istore_n [(3, .int (0 : Int32)), (2, .int (0 : Int32)), (0, .ref (zz_a G 0)), (1, .int v1)] dX12_moves_58 rfl (Nat.le_of_ble_eq_true rfl) rfl ?_
  refine zs_sub [2, 1, 0] rfl ?_
  exact t_X12_moves_59 hN zz_fuel _ _ _
def f_X12_moves_23   : Nat → Int32 → Int32 → zz_Mem → Option (Int32 × zz_Mem)
  | 0, _, _, _ => none
  | n + 1, v1, v2, m =>
  if (m.1 0 28) ≤ v2 then (
  f_X12_moves_49 v1 m)
  else (
  zz_ix v2 9 <|
  zz_ix v2 9 <| zz_letM (zz_setI m 18 v2.toNatClampNeg (m.1 14 v2.toNatClampNeg)) fun m1 =>
  zz_letI (v2 + (1 : Int32)) fun x2 =>
  f_X12_moves_23 n v1 x2 m1)
theorem t_X12_moves_23 {l : Launch} {G : zz_G} (hN : 26 ≤ zz_N G)  : ∀ (n : Nat) (v1 : Int32) (v2 : Int32) (m : zz_Mem), zz_Sim zz_shM l G mX12_moves 6 zz_vI zz_m2 (f_X12_moves_23 n v1 v2 m) 23 [(0, .ref (zz_a G 0)), (1, .int v1), (2, .int v2)] [] m := by
  intro n
  induction n with
  | zero => intro _ _ _; exact zs_none
  | succ n ih =>
    intro v1 v2 m
    rw [f_X12_moves_23]
    refine zs_iload_n dX12_moves_23 rfl 2 rfl ?_
    refine zs_aload_n dX12_moves_24 rfl 0 rfl ?_
    refine zs_getI fl_X12_272 dX12_moves_25 (shm_0 hN) rfl ?_
    refine zs_icmp_ge (tgt := 49) dX12_moves_28 (by decide) ?_ ?_
    · refine zs_sub [0, 1] rfl ?_
      exact t_X12_moves_49 hN _ _
    · refine zs_aload_n dX12_moves_31 rfl 0 rfl ?_
      refine zs_getR fl_X12_69 dX12_moves_32 (shm_0 hN) rfl ?_
      refine zs_iload_n dX12_moves_35 rfl 2 rfl ?_
      refine zs_aload_n dX12_moves_36 rfl 0 rfl ?_
      refine zs_getR fl_X12_57 dX12_moves_37 (shm_0 hN) rfl ?_
      refine zs_iload_n dX12_moves_40 rfl 2 rfl ?_
      refine zs_ialdG dX12_moves_41 (shm_14 hN) ?_
      refine zs_iastG dX12_moves_42 (shm_18 hN) (fun m1 => ?_)
      refine zs_iinc (fun y => [(2, .int y), (0, .ref (zz_a G 0)), (1, .int v1)]) dX12_moves_43 2 rfl ci_1 (Nat.le_of_ble_eq_true rfl) (fun _ => rfl) (fun x2 => ?_)
      refine zs_goto (tgt := 23) dX12_moves_46 (by decide) ?_
      refine zs_sub [1, 2, 0] rfl ?_
      exact ih _ _ _
def f_X12_moves  (p1 : Int32) (m : zz_Mem) : Option (Int32 × zz_Mem) :=
  zz_letM (zz_setI m 0 0 (0 : Int32)) fun m1 =>
  zz_bndR (f_X12_isInput m1 p1.toInt64) fun r2 =>
  if r2 = 0 then (
  some ((-2 : Int32), m1))
  else (
  zz_bndR (f_X12_laysCurve m1) fun m3 =>
  f_X12_moves_23 zz_fuel p1 (0 : Int32) m3)
theorem k_X12_moves {l : Launch} {G : zz_G} (hN : 26 ≤ zz_N G) : ∀ (p1 : Int32) (m : zz_Mem), zz_Con zz_shM l G mX12_moves 6 [.ref (zz_a G 0), .int p1] zz_vI zz_m2 (f_X12_moves p1 m) m := by
  intro p1 m
  refine zz_con (lv := [(0, .ref (zz_a G 0)), (1, .int p1)]) (by decide +kernel) (Nat.le_of_ble_eq_true rfl) rfl ?_
  unfold f_X12_moves
  refine zs_aload_n dX12_moves_0 rfl 0 rfl ?_
  refine zs_iconst (v := (0 : Int32)) dX12_moves_1 ci_0 ?_
  refine zs_putI fl_X12_1 dX12_moves_2 (shm_0 hN) rfl ⟨rfl, rfl⟩ (fun m1 => ?_)
  refine zs_aload_n dX12_moves_5 rfl 0 rfl ?_
  refine zs_iload_n dX12_moves_6 rfl 1 rfl ?_
  refine zs_i2l dX12_moves_7 ?_
  refine zs_cV_iR (rest := []) (k_X12_isInput hN _ _) dX12_moves_8 lv_X12_262 ok_X12_isInput (zz_rcv_o (shm_0 hN) rfl) (Nat.le_of_ble_eq_true rfl) rfl rfl (Nat.le_of_ble_eq_true rfl) (fun r2 => ?_)
  refine zs_if_ne (tgt := 17) dX12_moves_11 (by decide) ?_ ?_
  · refine zs_aload_n dX12_moves_17 rfl 0 rfl ?_
    refine zs_cV_vW (rest := []) (k_X12_laysCurve hN  _) dX12_moves_18 lv_X12_312 ok_X12_laysCurve (zz_rcv_o (shm_0 hN) rfl) (Nat.le_of_ble_eq_true rfl) rfl rfl (Nat.le_of_ble_eq_true rfl) (fun m3 => ?_)
    refine zs_iconst (v := (0 : Int32)) dX12_moves_21 ci_0 ?_
    refine zs_istore_n [(2, .int (0 : Int32)), (0, .ref (zz_a G 0)), (1, .int p1)] dX12_moves_22 rfl (Nat.le_of_ble_eq_true rfl) rfl ?_
    refine zs_sub [1, 2, 0] rfl ?_
    exact t_X12_moves_23 hN zz_fuel _ _ _
  · refine zs_bipush (v := (-2 : Int32)) dX12_moves_14 cb_m2 ?_
    exact zs_iret dX12_moves_16 rfl rfl rfl
/-! X12_worthBy: PillarDeskModel.worthBy()J -/
theorem dX12_worthBy_0 : decode cX12_worthBy 0 = .ok (.lconst 0, 1) := by decide +kernel
theorem dX12_worthBy_1 : decode cX12_worthBy 1 = .ok (.lstore_n 1, 1) := by decide +kernel
theorem dX12_worthBy_2 : decode cX12_worthBy 2 = .ok (.iconst 0, 1) := by decide +kernel
theorem dX12_worthBy_3 : decode cX12_worthBy 3 = .ok (.istore_n 3, 1) := by decide +kernel
theorem dX12_worthBy_4 : decode cX12_worthBy 4 = .ok (.iload_n 3, 1) := by decide +kernel
theorem dX12_worthBy_5 : decode cX12_worthBy 5 = .ok (.aload_n 0, 1) := by decide +kernel
theorem dX12_worthBy_6 : decode cX12_worthBy 6 = .ok (.getfield 13, 3) := by decide +kernel
theorem dX12_worthBy_9 : decode cX12_worthBy 9 = .ok (.iconst 5, 1) := by decide +kernel
theorem dX12_worthBy_10 : decode cX12_worthBy 10 = .ok (.iaload, 1) := by decide +kernel
theorem dX12_worthBy_11 : decode cX12_worthBy 11 = .ok (.if_icmp .ge 37, 3) := by decide +kernel
theorem dX12_worthBy_14 : decode cX12_worthBy 14 = .ok (.lload_n 1, 1) := by decide +kernel
theorem dX12_worthBy_15 : decode cX12_worthBy 15 = .ok (.aload_n 0, 1) := by decide +kernel
theorem dX12_worthBy_16 : decode cX12_worthBy 16 = .ok (.getfield 13, 3) := by decide +kernel
theorem dX12_worthBy_19 : decode cX12_worthBy 19 = .ok (.bipush 75, 2) := by decide +kernel
theorem dX12_worthBy_21 : decode cX12_worthBy 21 = .ok (.iload_n 3, 1) := by decide +kernel
theorem dX12_worthBy_22 : decode cX12_worthBy 22 = .ok (.iadd, 1) := by decide +kernel
theorem dX12_worthBy_23 : decode cX12_worthBy 23 = .ok (.iaload, 1) := by decide +kernel
theorem dX12_worthBy_24 : decode cX12_worthBy 24 = .ok (.i2l, 1) := by decide +kernel
theorem dX12_worthBy_25 : decode cX12_worthBy 25 = .ok (.aload_n 0, 1) := by decide +kernel
theorem dX12_worthBy_26 : decode cX12_worthBy 26 = .ok (.aload_n 0, 1) := by decide +kernel
theorem dX12_worthBy_27 : decode cX12_worthBy 27 = .ok (.getfield 13, 3) := by decide +kernel
theorem dX12_worthBy_30 : decode cX12_worthBy 30 = .ok (.bipush 56, 2) := by decide +kernel
theorem dX12_worthBy_32 : decode cX12_worthBy 32 = .ok (.iload_n 3, 1) := by decide +kernel
theorem dX12_worthBy_33 : decode cX12_worthBy 33 = .ok (.iadd, 1) := by decide +kernel
theorem dX12_worthBy_34 : decode cX12_worthBy 34 = .ok (.iaload, 1) := by decide +kernel
theorem dX12_worthBy_35 : decode cX12_worthBy 35 = .ok (.invokevirtual 290, 3) := by decide +kernel
theorem dX12_worthBy_38 : decode cX12_worthBy 38 = .ok (.i2l, 1) := by decide +kernel
theorem dX12_worthBy_39 : decode cX12_worthBy 39 = .ok (.lmul, 1) := by decide +kernel
theorem dX12_worthBy_40 : decode cX12_worthBy 40 = .ok (.ladd, 1) := by decide +kernel
theorem dX12_worthBy_41 : decode cX12_worthBy 41 = .ok (.lstore_n 1, 1) := by decide +kernel
theorem dX12_worthBy_42 : decode cX12_worthBy 42 = .ok (.iinc 3 1, 3) := by decide +kernel
theorem dX12_worthBy_45 : decode cX12_worthBy 45 = .ok (.goto (-41), 3) := by decide +kernel
theorem dX12_worthBy_48 : decode cX12_worthBy 48 = .ok (.lload_n 1, 1) := by decide +kernel
theorem dX12_worthBy_49 : decode cX12_worthBy 49 = .ok (.lreturn, 1) := by decide +kernel
def f_X12_worthBy_4 (m : zz_Mem)  : Nat → Int64 → Int32 → Option Int64
  | 0, _, _ => none
  | n + 1, v1, v3 =>
  if (m.1 1 5) ≤ v3 then (
  some v1)
  else (
  zz_ix ((75 : Int32) + v3) 3531 <|
  zz_ix ((56 : Int32) + v3) 3531 <|
  zz_bndR (f_X12_factorAt m (m.1 1 ((56 : Int32) + v3).toNatClampNeg)) fun r1 =>
  zz_letJ (v1 + (((m.1 1 ((75 : Int32) + v3).toNatClampNeg).toInt64) * r1.toInt64)) fun y2 =>
  zz_letI (v3 + (1 : Int32)) fun x3 =>
  f_X12_worthBy_4 m n y2 x3)
theorem t_X12_worthBy_4 {l : Launch} {G : zz_G} (hN : 26 ≤ zz_N G) {m : zz_Mem}  : ∀ (n : Nat) (v1 : Int64) (v3 : Int32), zz_Sim zz_shM l G mX12_worthBy 2 zz_vJr (zz_mC m) (f_X12_worthBy_4 m n v1 v3) 4 [(0, .ref (zz_a G 0)), (1, .long v1), (3, .int v3)] [] m := by
  intro n
  induction n with
  | zero => intro _ _; exact zs_none
  | succ n ih =>
    intro v1 v3
    rw [f_X12_worthBy_4]
    refine zs_iload_n dX12_worthBy_4 rfl 2 rfl ?_
    refine zs_aload_n dX12_worthBy_5 rfl 0 rfl ?_
    refine zs_getR fl_X12_13 dX12_worthBy_6 (shm_0 hN) rfl ?_
    refine zs_iconst (v := (5 : Int32)) dX12_worthBy_9 ci_5 ?_
    refine zs_ialdC dX12_worthBy_10 (shm_1 hN) vin_5_3531 clp_5 ?_
    refine zs_icmp_ge (tgt := 48) dX12_worthBy_11 (by decide) ?_ ?_
    · refine zs_lload_n dX12_worthBy_48 rfl 1 rfl ?_
      exact zs_lret dX12_worthBy_49 rfl rfl rfl
    · refine zs_lload_n dX12_worthBy_14 rfl 1 rfl ?_
      refine zs_aload_n dX12_worthBy_15 rfl 0 rfl ?_
      refine zs_getR fl_X12_13 dX12_worthBy_16 (shm_0 hN) rfl ?_
      refine zs_bipush (v := (75 : Int32)) dX12_worthBy_19 cb_75 ?_
      refine zs_iload_n dX12_worthBy_21 rfl 2 rfl ?_
      refine zs_iadd dX12_worthBy_22 ?_
      refine zs_ialdG dX12_worthBy_23 (shm_1 hN) ?_
      refine zs_i2l dX12_worthBy_24 ?_
      refine zs_aload_n dX12_worthBy_25 rfl 0 rfl ?_
      refine zs_aload_n dX12_worthBy_26 rfl 0 rfl ?_
      refine zs_getR fl_X12_13 dX12_worthBy_27 (shm_0 hN) rfl ?_
      refine zs_bipush (v := (56 : Int32)) dX12_worthBy_30 cb_56 ?_
      refine zs_iload_n dX12_worthBy_32 rfl 2 rfl ?_
      refine zs_iadd dX12_worthBy_33 ?_
      refine zs_ialdG dX12_worthBy_34 (shm_1 hN) ?_
      refine zs_cV_iR (rest := [.long ((m.1 1 ((75 : Int32) + v3).toNatClampNeg).toInt64), .long v1]) (k_X12_factorAt hN _ _) dX12_worthBy_35 lv_X12_290 ok_X12_factorAt (zz_rcv_o (shm_0 hN) rfl) (Nat.le_of_ble_eq_true rfl) rfl rfl (Nat.le_of_ble_eq_true rfl) (fun r1 => ?_)
      refine zs_i2l dX12_worthBy_38 ?_
      refine zs_lmul dX12_worthBy_39 ?_
      refine zs_ladd dX12_worthBy_40 ?_
      refine zs_letJ (fun y2 => ?_)
      refine zs_lstore_n [(1, .long y2), (0, .ref (zz_a G 0)), (3, .int v3)] dX12_worthBy_41 rfl (Nat.le_of_ble_eq_true rfl) rfl ?_
      refine zs_iinc (fun y => [(3, .int y), (1, .long y2), (0, .ref (zz_a G 0))]) dX12_worthBy_42 2 rfl ci_1 (Nat.le_of_ble_eq_true rfl) (fun _ => rfl) (fun x3 => ?_)
      refine zs_goto (tgt := 4) dX12_worthBy_45 (by decide) ?_
      refine zs_sub [2, 1, 0] rfl ?_
      exact ih _ _
def f_X12_worthBy (m : zz_Mem)  : Option Int64 :=
  f_X12_worthBy_4 m zz_fuel (0 : Int64) (0 : Int32)
theorem k_X12_worthBy {l : Launch} {G : zz_G} (hN : 26 ≤ zz_N G) : ∀ (m : zz_Mem), zz_Con zz_shM l G mX12_worthBy 2 [.ref (zz_a G 0)] zz_vJr (zz_mC m) (f_X12_worthBy m) m := by
  intro m
  refine zz_con (lv := [(0, .ref (zz_a G 0))]) (by decide +kernel) (Nat.le_of_ble_eq_true rfl) rfl ?_
  unfold f_X12_worthBy
  refine zs_lconst (v := (0 : Int64)) dX12_worthBy_0 rfl ?_
  refine zs_lstore_n [(1, .long (0 : Int64)), (0, .ref (zz_a G 0))] dX12_worthBy_1 rfl (Nat.le_of_ble_eq_true rfl) rfl ?_
  refine zs_iconst (v := (0 : Int32)) dX12_worthBy_2 ci_0 ?_
  refine zs_istore_n [(3, .int (0 : Int32)), (1, .long (0 : Int64)), (0, .ref (zz_a G 0))] dX12_worthBy_3 rfl (Nat.le_of_ble_eq_true rfl) rfl ?_
  refine zs_sub [2, 1, 0] rfl ?_
  exact t_X12_worthBy_4 hN zz_fuel _ _
/-! X12_worthNow: PillarDeskModel.worthNow()J -/
theorem dX12_worthNow_0 : decode cX12_worthNow 0 = .ok (.aload_n 0, 1) := by decide +kernel
theorem dX12_worthNow_1 : decode cX12_worthNow 1 = .ok (.invokevirtual 312, 3) := by decide +kernel
theorem dX12_worthNow_4 : decode cX12_worthNow 4 = .ok (.aload_n 0, 1) := by decide +kernel
theorem dX12_worthNow_5 : decode cX12_worthNow 5 = .ok (.invokevirtual 401, 3) := by decide +kernel
theorem dX12_worthNow_8 : decode cX12_worthNow 8 = .ok (.lreturn, 1) := by decide +kernel
def f_X12_worthNow   (m : zz_Mem) : Option (Int64 × zz_Mem) :=
  zz_bndR (f_X12_laysCurve m) fun m1 =>
  zz_bndR (f_X12_worthBy m1) fun r2 =>
  some (r2, m1)
theorem k_X12_worthNow {l : Launch} {G : zz_G} (hN : 26 ≤ zz_N G) : ∀ (m : zz_Mem), zz_Con zz_shM l G mX12_worthNow 6 [.ref (zz_a G 0)] zz_vJ zz_m2 (f_X12_worthNow m) m := by
  intro m
  refine zz_con (lv := [(0, .ref (zz_a G 0))]) (by decide +kernel) (Nat.le_of_ble_eq_true rfl) rfl ?_
  unfold f_X12_worthNow
  refine zs_aload_n dX12_worthNow_0 rfl 0 rfl ?_
  refine zs_cV_vW (rest := []) (k_X12_laysCurve hN  _) dX12_worthNow_1 lv_X12_312 ok_X12_laysCurve (zz_rcv_o (shm_0 hN) rfl) (Nat.le_of_ble_eq_true rfl) rfl rfl (Nat.le_of_ble_eq_true rfl) (fun m1 => ?_)
  refine zs_aload_n dX12_worthNow_4 rfl 0 rfl ?_
  refine zs_cV_jR (rest := []) (k_X12_worthBy hN  _) dX12_worthNow_5 lv_X12_401 ok_X12_worthBy (zz_rcv_o (shm_0 hN) rfl) (Nat.le_of_ble_eq_true rfl) rfl rfl (Nat.le_of_ble_eq_true rfl) (fun r2 => ?_)
  exact zs_lret dX12_worthNow_8 rfl rfl rfl
/-! X12_worthWith: PillarDeskModel.worthWith(II)J -/
theorem dX12_worthWith_0 : decode cX12_worthWith 0 = .ok (.aload_n 0, 1) := by decide +kernel
theorem dX12_worthWith_1 : decode cX12_worthWith 1 = .ok (.iload_n 1, 1) := by decide +kernel
theorem dX12_worthWith_2 : decode cX12_worthWith 2 = .ok (.iload_n 2, 1) := by decide +kernel
theorem dX12_worthWith_3 : decode cX12_worthWith 3 = .ok (.invokevirtual 397, 3) := by decide +kernel
theorem dX12_worthWith_6 : decode cX12_worthWith 6 = .ok (.aload_n 0, 1) := by decide +kernel
theorem dX12_worthWith_7 : decode cX12_worthWith 7 = .ok (.invokevirtual 401, 3) := by decide +kernel
theorem dX12_worthWith_10 : decode cX12_worthWith 10 = .ok (.lreturn, 1) := by decide +kernel
def f_X12_worthWith  (p1 : Int32) (p2 : Int32) (m : zz_Mem) : Option (Int64 × zz_Mem) :=
  zz_bndR (f_X12_laysWith p1 p2 m) fun m1 =>
  zz_bndR (f_X12_worthBy m1) fun r2 =>
  some (r2, m1)
theorem k_X12_worthWith {l : Launch} {G : zz_G} (hN : 26 ≤ zz_N G) : ∀ (p1 : Int32) (p2 : Int32) (m : zz_Mem), zz_Con zz_shM l G mX12_worthWith 6 [.ref (zz_a G 0), .int p1, .int p2] zz_vJ zz_m2 (f_X12_worthWith p1 p2 m) m := by
  intro p1 p2 m
  refine zz_con (lv := [(0, .ref (zz_a G 0)), (1, .int p1), (2, .int p2)]) (by decide +kernel) (Nat.le_of_ble_eq_true rfl) rfl ?_
  unfold f_X12_worthWith
  refine zs_aload_n dX12_worthWith_0 rfl 0 rfl ?_
  refine zs_iload_n dX12_worthWith_1 rfl 1 rfl ?_
  refine zs_iload_n dX12_worthWith_2 rfl 2 rfl ?_
  refine zs_cV_vW (rest := []) (k_X12_laysWith hN _ _ _) dX12_worthWith_3 lv_X12_397 ok_X12_laysWith (zz_rcv_o (shm_0 hN) rfl) (Nat.le_of_ble_eq_true rfl) rfl rfl (Nat.le_of_ble_eq_true rfl) (fun m1 => ?_)
  refine zs_aload_n dX12_worthWith_6 rfl 0 rfl ?_
  refine zs_cV_jR (rest := []) (k_X12_worthBy hN  _) dX12_worthWith_7 lv_X12_401 ok_X12_worthBy (zz_rcv_o (shm_0 hN) rfl) (Nat.le_of_ble_eq_true rfl) rfl rfl (Nat.le_of_ble_eq_true rfl) (fun r2 => ?_)
  exact zs_lret dX12_worthWith_10 rfl rfl rfl
/-! X12_worth: PillarDeskModel.worth()J -/
theorem dX12_worth_0 : decode cX12_worth 0 = .ok (.aload_n 0, 1) := by decide +kernel
theorem dX12_worth_1 : decode cX12_worth 1 = .ok (.iconst 0, 1) := by decide +kernel
theorem dX12_worth_2 : decode cX12_worth 2 = .ok (.putfield 1, 3) := by decide +kernel
theorem dX12_worth_5 : decode cX12_worth 5 = .ok (.aload_n 0, 1) := by decide +kernel
theorem dX12_worth_6 : decode cX12_worth 6 = .ok (.invokevirtual 405, 3) := by decide +kernel
theorem dX12_worth_9 : decode cX12_worth 9 = .ok (.lreturn, 1) := by decide +kernel
def f_X12_worth   (m : zz_Mem) : Option (Int64 × zz_Mem) :=
  zz_letM (zz_setI m 0 0 (0 : Int32)) fun m1 =>
  zz_bnd (f_X12_worthNow m1) fun r2 m3 =>
  some (r2, m3)
theorem k_X12_worth {l : Launch} {G : zz_G} (hN : 26 ≤ zz_N G) : ∀ (m : zz_Mem), zz_Con zz_shM l G mX12_worth 7 [.ref (zz_a G 0)] zz_vJ zz_m2 (f_X12_worth m) m := by
  intro m
  refine zz_con (lv := [(0, .ref (zz_a G 0))]) (by decide +kernel) (Nat.le_of_ble_eq_true rfl) rfl ?_
  unfold f_X12_worth
  refine zs_aload_n dX12_worth_0 rfl 0 rfl ?_
  refine zs_iconst (v := (0 : Int32)) dX12_worth_1 ci_0 ?_
  refine zs_putI fl_X12_1 dX12_worth_2 (shm_0 hN) rfl ⟨rfl, rfl⟩ (fun m1 => ?_)
  refine zs_aload_n dX12_worth_5 rfl 0 rfl ?_
  refine zs_cV_jW (rest := []) (k_X12_worthNow hN  _) dX12_worth_6 lv_X12_405 ok_X12_worthNow (zz_rcv_o (shm_0 hN) rfl) (Nat.le_of_ble_eq_true rfl) rfl rfl (Nat.le_of_ble_eq_true rfl) (fun r2 m3 => ?_)
  exact zs_lret dX12_worth_9 rfl rfl rfl
/-! X12_move: PillarDeskModel.move(I)J -/
theorem dX12_move_0 : decode cX12_move 0 = .ok (.aload_n 0, 1) := by decide +kernel
theorem dX12_move_1 : decode cX12_move 1 = .ok (.iconst 0, 1) := by decide +kernel
theorem dX12_move_2 : decode cX12_move 2 = .ok (.putfield 1, 3) := by decide +kernel
theorem dX12_move_5 : decode cX12_move 5 = .ok (.aload_n 0, 1) := by decide +kernel
theorem dX12_move_6 : decode cX12_move 6 = .ok (.iload_n 1, 1) := by decide +kernel
theorem dX12_move_7 : decode cX12_move 7 = .ok (.i2l, 1) := by decide +kernel
theorem dX12_move_8 : decode cX12_move 8 = .ok (.invokevirtual 262, 3) := by decide +kernel
theorem dX12_move_11 : decode cX12_move 11 = .ok (.ifCond .eq 17, 3) := by decide +kernel
theorem dX12_move_14 : decode cX12_move 14 = .ok (.aload_n 0, 1) := by decide +kernel
theorem dX12_move_15 : decode cX12_move 15 = .ok (.iload_n 1, 1) := by decide +kernel
theorem dX12_move_16 : decode cX12_move 16 = .ok (.iconst 1, 1) := by decide +kernel
theorem dX12_move_17 : decode cX12_move 17 = .ok (.invokevirtual 408, 3) := by decide +kernel
theorem dX12_move_20 : decode cX12_move 20 = .ok (.aload_n 0, 1) := by decide +kernel
theorem dX12_move_21 : decode cX12_move 21 = .ok (.invokevirtual 405, 3) := by decide +kernel
theorem dX12_move_24 : decode cX12_move 24 = .ok (.lsub, 1) := by decide +kernel
theorem dX12_move_25 : decode cX12_move 25 = .ok (.goto 6, 3) := by decide +kernel
theorem dX12_move_28 : decode cX12_move 28 = .ok (.ldc2_w 318, 3) := by decide +kernel
theorem dX12_move_31 : decode cX12_move 31 = .ok (.lreturn, 1) := by decide +kernel
def f_X12_move  (p1 : Int32) (m : zz_Mem) : Option (Int64 × zz_Mem) :=
  zz_letM (zz_setI m 0 0 (0 : Int32)) fun m1 =>
  zz_bndR (f_X12_isInput m1 p1.toInt64) fun r2 =>
  if r2 = 0 then (
  some ((-9000000000000000002 : Int64), m1))
  else (
  zz_bnd (f_X12_worthWith p1 (1 : Int32) m1) fun r3 m4 =>
  zz_bnd (f_X12_worthNow m4) fun r5 m6 =>
  some (r3 - r5, m6))
theorem k_X12_move {l : Launch} {G : zz_G} (hN : 26 ≤ zz_N G) : ∀ (p1 : Int32) (m : zz_Mem), zz_Con zz_shM l G mX12_move 7 [.ref (zz_a G 0), .int p1] zz_vJ zz_m2 (f_X12_move p1 m) m := by
  intro p1 m
  refine zz_con (lv := [(0, .ref (zz_a G 0)), (1, .int p1)]) (by decide +kernel) (Nat.le_of_ble_eq_true rfl) rfl ?_
  unfold f_X12_move
  refine zs_aload_n dX12_move_0 rfl 0 rfl ?_
  refine zs_iconst (v := (0 : Int32)) dX12_move_1 ci_0 ?_
  refine zs_putI fl_X12_1 dX12_move_2 (shm_0 hN) rfl ⟨rfl, rfl⟩ (fun m1 => ?_)
  refine zs_aload_n dX12_move_5 rfl 0 rfl ?_
  refine zs_iload_n dX12_move_6 rfl 1 rfl ?_
  refine zs_i2l dX12_move_7 ?_
  refine zs_cV_iR (rest := []) (k_X12_isInput hN _ _) dX12_move_8 lv_X12_262 ok_X12_isInput (zz_rcv_o (shm_0 hN) rfl) (Nat.le_of_ble_eq_true rfl) rfl rfl (Nat.le_of_ble_eq_true rfl) (fun r2 => ?_)
  refine zs_if_eq (tgt := 28) dX12_move_11 (by decide) ?_ ?_
  · refine zs_ldc2 (v := (-9000000000000000002 : Int64)) dX12_move_28 kc_X12_318 ?_
    exact zs_lret dX12_move_31 rfl rfl rfl
  · refine zs_aload_n dX12_move_14 rfl 0 rfl ?_
    refine zs_iload_n dX12_move_15 rfl 1 rfl ?_
    refine zs_iconst (v := (1 : Int32)) dX12_move_16 ci_1 ?_
    refine zs_cV_jW (rest := []) (k_X12_worthWith hN _ _ _) dX12_move_17 lv_X12_408 ok_X12_worthWith (zz_rcv_o (shm_0 hN) rfl) (Nat.le_of_ble_eq_true rfl) rfl rfl (Nat.le_of_ble_eq_true rfl) (fun r3 m4 => ?_)
    refine zs_aload_n dX12_move_20 rfl 0 rfl ?_
    refine zs_cV_jW (rest := [.long r3]) (k_X12_worthNow hN  _) dX12_move_21 lv_X12_405 ok_X12_worthNow (zz_rcv_o (shm_0 hN) rfl) (Nat.le_of_ble_eq_true rfl) rfl rfl (Nat.le_of_ble_eq_true rfl) (fun r5 m6 => ?_)
    refine zs_lsub dX12_move_24 ?_
    refine zs_goto (tgt := 31) dX12_move_25 (by decide) ?_
    exact zs_lret dX12_move_31 rfl rfl rfl
/-! X12_bumped: PillarDeskModel.bumped(II)J -/
theorem dX12_bumped_0 : decode cX12_bumped 0 = .ok (.aload_n 0, 1) := by decide +kernel
theorem dX12_bumped_1 : decode cX12_bumped 1 = .ok (.iconst 0, 1) := by decide +kernel
theorem dX12_bumped_2 : decode cX12_bumped 2 = .ok (.putfield 1, 3) := by decide +kernel
theorem dX12_bumped_5 : decode cX12_bumped 5 = .ok (.aload_n 0, 1) := by decide +kernel
theorem dX12_bumped_6 : decode cX12_bumped 6 = .ok (.iload_n 1, 1) := by decide +kernel
theorem dX12_bumped_7 : decode cX12_bumped 7 = .ok (.i2l, 1) := by decide +kernel
theorem dX12_bumped_8 : decode cX12_bumped 8 = .ok (.invokevirtual 262, 3) := by decide +kernel
theorem dX12_bumped_11 : decode cX12_bumped 11 = .ok (.ifCond .ne 7, 3) := by decide +kernel
theorem dX12_bumped_14 : decode cX12_bumped 14 = .ok (.ldc2_w 318, 3) := by decide +kernel
theorem dX12_bumped_17 : decode cX12_bumped 17 = .ok (.lreturn, 1) := by decide +kernel
theorem dX12_bumped_18 : decode cX12_bumped 18 = .ok (.iload_n 2, 1) := by decide +kernel
theorem dX12_bumped_19 : decode cX12_bumped 19 = .ok (.i2l, 1) := by decide +kernel
theorem dX12_bumped_20 : decode cX12_bumped 20 = .ok (.ldc2_w 322, 3) := by decide +kernel
theorem dX12_bumped_23 : decode cX12_bumped 23 = .ok (.ldc2_w 258, 3) := by decide +kernel
theorem dX12_bumped_26 : decode cX12_bumped 26 = .ok (.invokestatic 163, 3) := by decide +kernel
theorem dX12_bumped_29 : decode cX12_bumped 29 = .ok (.ifCond .eq 12, 3) := by decide +kernel
theorem dX12_bumped_32 : decode cX12_bumped 32 = .ok (.aload_n 0, 1) := by decide +kernel
theorem dX12_bumped_33 : decode cX12_bumped 33 = .ok (.iload_n 1, 1) := by decide +kernel
theorem dX12_bumped_34 : decode cX12_bumped 34 = .ok (.iload_n 2, 1) := by decide +kernel
theorem dX12_bumped_35 : decode cX12_bumped 35 = .ok (.invokevirtual 408, 3) := by decide +kernel
theorem dX12_bumped_38 : decode cX12_bumped 38 = .ok (.goto 6, 3) := by decide +kernel
theorem dX12_bumped_41 : decode cX12_bumped 41 = .ok (.ldc2_w 411, 3) := by decide +kernel
theorem dX12_bumped_44 : decode cX12_bumped 44 = .ok (.lreturn, 1) := by decide +kernel
def f_X12_bumped  (p1 : Int32) (p2 : Int32) (m : zz_Mem) : Option (Int64 × zz_Mem) :=
  zz_letM (zz_setI m 0 0 (0 : Int32)) fun m1 =>
  zz_bndR (f_X12_isInput m1 p1.toInt64) fun r2 =>
  if r2 = 0 then (
  some ((-9000000000000000002 : Int64), m1))
  else (
  zz_bndR (f_X12_within p2.toInt64 (-999 : Int64) (999 : Int64)) fun r3 =>
  if r3 = 0 then (
  some ((-9000000000000000003 : Int64), m1))
  else (
  zz_bnd (f_X12_worthWith p1 p2 m1) fun r4 m5 =>
  some (r4, m5)))
theorem k_X12_bumped {l : Launch} {G : zz_G} (hN : 26 ≤ zz_N G) : ∀ (p1 : Int32) (p2 : Int32) (m : zz_Mem), zz_Con zz_shM l G mX12_bumped 7 [.ref (zz_a G 0), .int p1, .int p2] zz_vJ zz_m2 (f_X12_bumped p1 p2 m) m := by
  intro p1 p2 m
  refine zz_con (lv := [(0, .ref (zz_a G 0)), (1, .int p1), (2, .int p2)]) (by decide +kernel) (Nat.le_of_ble_eq_true rfl) rfl ?_
  unfold f_X12_bumped
  refine zs_aload_n dX12_bumped_0 rfl 0 rfl ?_
  refine zs_iconst (v := (0 : Int32)) dX12_bumped_1 ci_0 ?_
  refine zs_putI fl_X12_1 dX12_bumped_2 (shm_0 hN) rfl ⟨rfl, rfl⟩ (fun m1 => ?_)
  refine zs_aload_n dX12_bumped_5 rfl 0 rfl ?_
  refine zs_iload_n dX12_bumped_6 rfl 1 rfl ?_
  refine zs_i2l dX12_bumped_7 ?_
  refine zs_cV_iR (rest := []) (k_X12_isInput hN _ _) dX12_bumped_8 lv_X12_262 ok_X12_isInput (zz_rcv_o (shm_0 hN) rfl) (Nat.le_of_ble_eq_true rfl) rfl rfl (Nat.le_of_ble_eq_true rfl) (fun r2 => ?_)
  refine zs_if_ne (tgt := 18) dX12_bumped_11 (by decide) ?_ ?_
  · refine zs_iload_n dX12_bumped_18 rfl 2 rfl ?_
    refine zs_i2l dX12_bumped_19 ?_
    refine zs_ldc2 (v := (-999 : Int64)) dX12_bumped_20 kc_X12_322 ?_
    refine zs_ldc2 (v := (999 : Int64)) dX12_bumped_23 kc_X12_258 ?_
    refine zs_cS_iR (rest := []) (k_X12_within hN _ _ _ _) dX12_bumped_26 ls_X12_163 ok_X12_within (Nat.le_of_ble_eq_true rfl) rfl rfl (Nat.le_of_ble_eq_true rfl) (fun r3 => ?_)
    refine zs_if_eq (tgt := 41) dX12_bumped_29 (by decide) ?_ ?_
    · refine zs_ldc2 (v := (-9000000000000000003 : Int64)) dX12_bumped_41 kc_X12_411 ?_
      exact zs_lret dX12_bumped_44 rfl rfl rfl
    · refine zs_aload_n dX12_bumped_32 rfl 0 rfl ?_
      refine zs_iload_n dX12_bumped_33 rfl 1 rfl ?_
      refine zs_iload_n dX12_bumped_34 rfl 2 rfl ?_
      refine zs_cV_jW (rest := []) (k_X12_worthWith hN _ _ _) dX12_bumped_35 lv_X12_408 ok_X12_worthWith (zz_rcv_o (shm_0 hN) rfl) (Nat.le_of_ble_eq_true rfl) rfl rfl (Nat.le_of_ble_eq_true rfl) (fun r4 m5 => ?_)
      refine zs_goto (tgt := 44) dX12_bumped_38 (by decide) ?_
      exact zs_lret dX12_bumped_44 rfl rfl rfl
  · refine zs_ldc2 (v := (-9000000000000000002 : Int64)) dX12_bumped_14 kc_X12_318 ?_
    exact zs_lret dX12_bumped_17 rfl rfl rfl
/-! X12_mover: PillarDeskModel.mover()I -/
theorem dX12_mover_0 : decode cX12_mover 0 = .ok (.aload_n 0, 1) := by decide +kernel
theorem dX12_mover_1 : decode cX12_mover 1 = .ok (.iconst 0, 1) := by decide +kernel
theorem dX12_mover_2 : decode cX12_mover 2 = .ok (.putfield 1, 3) := by decide +kernel
theorem dX12_mover_5 : decode cX12_mover 5 = .ok (.iconst (-1), 1) := by decide +kernel
theorem dX12_mover_6 : decode cX12_mover 6 = .ok (.istore_n 1, 1) := by decide +kernel
theorem dX12_mover_7 : decode cX12_mover 7 = .ok (.ldc2_w 413, 3) := by decide +kernel
theorem dX12_mover_10 : decode cX12_mover 10 = .ok (.lstore_n 2, 1) := by decide +kernel
theorem dX12_mover_11 : decode cX12_mover 11 = .ok (.aload_n 0, 1) := by decide +kernel
theorem dX12_mover_12 : decode cX12_mover 12 = .ok (.invokevirtual 405, 3) := by decide +kernel
theorem dX12_mover_15 : decode cX12_mover 15 = .ok (.lstore 4, 2) := by decide +kernel
theorem dX12_mover_17 : decode cX12_mover 17 = .ok (.iconst 0, 1) := by decide +kernel
theorem dX12_mover_18 : decode cX12_mover 18 = .ok (.istore 6, 2) := by decide +kernel
theorem dX12_mover_20 : decode cX12_mover 20 = .ok (.iload 6, 2) := by decide +kernel
theorem dX12_mover_22 : decode cX12_mover 22 = .ok (.aload_n 0, 1) := by decide +kernel
theorem dX12_mover_23 : decode cX12_mover 23 = .ok (.getfield 13, 3) := by decide +kernel
theorem dX12_mover_26 : decode cX12_mover 26 = .ok (.iconst 4, 1) := by decide +kernel
theorem dX12_mover_27 : decode cX12_mover 27 = .ok (.iaload, 1) := by decide +kernel
theorem dX12_mover_28 : decode cX12_mover 28 = .ok (.if_icmp .ge 49, 3) := by decide +kernel
theorem dX12_mover_31 : decode cX12_mover 31 = .ok (.aload_n 0, 1) := by decide +kernel
theorem dX12_mover_32 : decode cX12_mover 32 = .ok (.iload 6, 2) := by decide +kernel
theorem dX12_mover_34 : decode cX12_mover 34 = .ok (.iconst 1, 1) := by decide +kernel
theorem dX12_mover_35 : decode cX12_mover 35 = .ok (.invokevirtual 408, 3) := by decide +kernel
theorem dX12_mover_38 : decode cX12_mover 38 = .ok (.lload 4, 2) := by decide +kernel
theorem dX12_mover_40 : decode cX12_mover 40 = .ok (.lsub, 1) := by decide +kernel
theorem dX12_mover_41 : decode cX12_mover 41 = .ok (.lstore 7, 2) := by decide +kernel
theorem dX12_mover_43 : decode cX12_mover 43 = .ok (.lload 7, 2) := by decide +kernel
theorem dX12_mover_45 : decode cX12_mover 45 = .ok (.lconst 0, 1) := by decide +kernel
theorem dX12_mover_46 : decode cX12_mover 46 = .ok (.lcmp, 1) := by decide +kernel
theorem dX12_mover_47 : decode cX12_mover 47 = .ok (.ifCond .ge 8, 3) := by decide +kernel
theorem dX12_mover_50 : decode cX12_mover 50 = .ok (.lload 7, 2) := by decide +kernel
theorem dX12_mover_52 : decode cX12_mover 52 = .ok (.lneg, 1) := by decide +kernel
theorem dX12_mover_53 : decode cX12_mover 53 = .ok (.lstore 7, 2) := by decide +kernel
theorem dX12_mover_55 : decode cX12_mover 55 = .ok (.lload 7, 2) := by decide +kernel
theorem dX12_mover_57 : decode cX12_mover 57 = .ok (.lload_n 2, 1) := by decide +kernel
theorem dX12_mover_58 : decode cX12_mover 58 = .ok (.lcmp, 1) := by decide +kernel
theorem dX12_mover_59 : decode cX12_mover 59 = .ok (.ifCond .gt 6, 3) := by decide +kernel
theorem dX12_mover_62 : decode cX12_mover 62 = .ok (.goto 9, 3) := by decide +kernel
theorem dX12_mover_65 : decode cX12_mover 65 = .ok (.iload 6, 2) := by decide +kernel
theorem dX12_mover_67 : decode cX12_mover 67 = .ok (.istore_n 1, 1) := by decide +kernel
theorem dX12_mover_68 : decode cX12_mover 68 = .ok (.lload 7, 2) := by decide +kernel
theorem dX12_mover_70 : decode cX12_mover 70 = .ok (.lstore_n 2, 1) := by decide +kernel
theorem dX12_mover_71 : decode cX12_mover 71 = .ok (.iinc 6 1, 3) := by decide +kernel
theorem dX12_mover_74 : decode cX12_mover 74 = .ok (.goto (-54), 3) := by decide +kernel
theorem dX12_mover_77 : decode cX12_mover 77 = .ok (.iload_n 1, 1) := by decide +kernel
theorem dX12_mover_78 : decode cX12_mover 78 = .ok (.ireturn, 1) := by decide +kernel
def f_X12_mover_55  (k20 : Int32 → Int64 → Int64 → Int32 → zz_Mem → Option (Int32 × zz_Mem)) (v1 : Int32) (v2 : Int64) (v4 : Int64) (v6 : Int32) (v7 : Int64) (m : zz_Mem) : Option (Int32 × zz_Mem) :=
  if v2 < v7 then (
  zz_letI (v6 + (1 : Int32)) fun x1 =>
  k20 v6 v7 v4 x1 m)
  else (
  zz_letI (v6 + (1 : Int32)) fun x2 =>
  k20 v1 v2 v4 x2 m)
theorem t_X12_mover_55 {l : Launch} {G : zz_G} (hN : 26 ≤ zz_N G) {k20 : Int32 → Int64 → Int64 → Int32 → zz_Mem → Option (Int32 × zz_Mem)} (hk20 : ∀ (v1 : Int32) (v2 : Int64) (v4 : Int64) (v6 : Int32) (m : zz_Mem), zz_Sim zz_shM l G mX12_mover 7 zz_vI zz_m2 (k20 v1 v2 v4 v6 m) 20 [(0, .ref (zz_a G 0)), (1, .int v1), (2, .long v2), (4, .long v4), (6, .int v6)] [] m) : ∀ (v1 : Int32) (v2 : Int64) (v4 : Int64) (v6 : Int32) (v7 : Int64) (m : zz_Mem), zz_Sim zz_shM l G mX12_mover 7 zz_vI zz_m2 (f_X12_mover_55 k20 v1 v2 v4 v6 v7 m) 55 [(0, .ref (zz_a G 0)), (1, .int v1), (2, .long v2), (4, .long v4), (6, .int v6), (7, .long v7)] [] m := by
  intro v1 v2 v4 v6 v7 m
  unfold f_X12_mover_55
  refine zs_lload dX12_mover_55 5 rfl ?_
  refine zs_lload_n dX12_mover_57 rfl 2 rfl ?_
  refine zs_lcmp_gt (tgt := 65) dX12_mover_58 dX12_mover_59 (by decide) ?_ ?_
  · refine zs_iload dX12_mover_65 4 rfl ?_
    refine zs_istore_n [(1, .int v6), (0, .ref (zz_a G 0)), (2, .long v2), (4, .long v4), (6, .int v6), (7, .long v7)] dX12_mover_67 rfl (Nat.le_of_ble_eq_true rfl) rfl ?_
    refine zs_lload dX12_mover_68 5 rfl ?_
    refine zs_lstore_n [(2, .long v7), (1, .int v6), (0, .ref (zz_a G 0)), (4, .long v4), (6, .int v6), (7, .long v7)] dX12_mover_70 rfl (Nat.le_of_ble_eq_true rfl) rfl ?_
    refine zs_iinc (fun y => [(6, .int y), (2, .long v7), (1, .int v6), (0, .ref (zz_a G 0)), (4, .long v4), (7, .long v7)]) dX12_mover_71 4 rfl ci_1 (Nat.le_of_ble_eq_true rfl) (fun _ => rfl) (fun x1 => ?_)
    refine zs_goto (tgt := 20) dX12_mover_74 (by decide) ?_
    refine zs_sub [3, 2, 1, 4, 0] rfl ?_
    exact hk20 _ _ _ _ _
  · refine zs_goto (tgt := 71) dX12_mover_62 (by decide) ?_
    refine zs_iinc (fun y => [(6, .int y), (0, .ref (zz_a G 0)), (1, .int v1), (2, .long v2), (4, .long v4), (7, .long v7)]) dX12_mover_71 4 rfl ci_1 (Nat.le_of_ble_eq_true rfl) (fun _ => rfl) (fun x2 => ?_)
    refine zs_goto (tgt := 20) dX12_mover_74 (by decide) ?_
    refine zs_sub [1, 2, 3, 4, 0] rfl ?_
    exact hk20 _ _ _ _ _
def f_X12_mover_20   : Nat → Int32 → Int64 → Int64 → Int32 → zz_Mem → Option (Int32 × zz_Mem)
  | 0, _, _, _, _, _ => none
  | n + 1, v1, v2, v4, v6, m =>
  if (m.1 1 4) ≤ v6 then (
  some (v1, m))
  else (
  zz_bnd (f_X12_worthWith v6 (1 : Int32) m) fun r1 m2 =>
  zz_letJ (r1 - v4) fun y3 =>
  if (0 : Int64) ≤ y3 then (
  f_X12_mover_55 (f_X12_mover_20 n) v1 v2 v4 v6 y3 m2)
  else (
  zz_letJ (-y3) fun y4 =>
  f_X12_mover_55 (f_X12_mover_20 n) v1 v2 v4 v6 y4 m2))
theorem t_X12_mover_20 {l : Launch} {G : zz_G} (hN : 26 ≤ zz_N G)  : ∀ (n : Nat) (v1 : Int32) (v2 : Int64) (v4 : Int64) (v6 : Int32) (m : zz_Mem), zz_Sim zz_shM l G mX12_mover 7 zz_vI zz_m2 (f_X12_mover_20 n v1 v2 v4 v6 m) 20 [(0, .ref (zz_a G 0)), (1, .int v1), (2, .long v2), (4, .long v4), (6, .int v6)] [] m := by
  intro n
  induction n with
  | zero => intro _ _ _ _ _; exact zs_none
  | succ n ih =>
    intro v1 v2 v4 v6 m
    rw [f_X12_mover_20]
    refine zs_iload dX12_mover_20 4 rfl ?_
    refine zs_aload_n dX12_mover_22 rfl 0 rfl ?_
    refine zs_getR fl_X12_13 dX12_mover_23 (shm_0 hN) rfl ?_
    refine zs_iconst (v := (4 : Int32)) dX12_mover_26 ci_4 ?_
    refine zs_ialdC dX12_mover_27 (shm_1 hN) vin_4_3531 clp_4 ?_
    refine zs_icmp_ge (tgt := 77) dX12_mover_28 (by decide) ?_ ?_
    · refine zs_iload_n dX12_mover_77 rfl 1 rfl ?_
      exact zs_iret dX12_mover_78 rfl rfl rfl
    · refine zs_aload_n dX12_mover_31 rfl 0 rfl ?_
      refine zs_iload dX12_mover_32 4 rfl ?_
      refine zs_iconst (v := (1 : Int32)) dX12_mover_34 ci_1 ?_
      refine zs_cV_jW (rest := []) (k_X12_worthWith hN _ _ _) dX12_mover_35 lv_X12_408 ok_X12_worthWith (zz_rcv_o (shm_0 hN) rfl) (Nat.le_of_ble_eq_true rfl) rfl rfl (Nat.le_of_ble_eq_true rfl) (fun r1 m2 => ?_)
      refine zs_lload dX12_mover_38 3 rfl ?_
      refine zs_lsub dX12_mover_40 ?_
      refine zs_letJ (fun y3 => ?_)
      refine zs_lstore [(7, .long y3), (0, .ref (zz_a G 0)), (1, .int v1), (2, .long v2), (4, .long v4), (6, .int v6)] dX12_mover_41 (Nat.le_of_ble_eq_true rfl) rfl ?_
      refine zs_lload dX12_mover_43 0 rfl ?_
      refine zs_lconst (v := (0 : Int64)) dX12_mover_45 rfl ?_
      refine zs_lcmp_ge (tgt := 55) dX12_mover_46 dX12_mover_47 (by decide) ?_ ?_
      · refine zs_sub [1, 2, 3, 4, 5, 0] rfl ?_
        exact t_X12_mover_55 hN ih _ _ _ _ _ _
      · refine zs_lload dX12_mover_50 0 rfl ?_
        refine zs_lneg dX12_mover_52 ?_
        refine zs_letJ (fun y4 => ?_)
        refine zs_lstore [(7, .long y4), (0, .ref (zz_a G 0)), (1, .int v1), (2, .long v2), (4, .long v4), (6, .int v6)] dX12_mover_53 (Nat.le_of_ble_eq_true rfl) rfl ?_
        refine zs_sub [1, 2, 3, 4, 5, 0] rfl ?_
        exact t_X12_mover_55 hN ih _ _ _ _ _ _
def f_X12_mover   (m : zz_Mem) : Option (Int32 × zz_Mem) :=
  zz_letM (zz_setI m 0 0 (0 : Int32)) fun m1 =>
  zz_bnd (f_X12_worthNow m1) fun r2 m3 =>
  f_X12_mover_20 zz_fuel (-1 : Int32) (-1 : Int64) r2 (0 : Int32) m3
theorem k_X12_mover {l : Launch} {G : zz_G} (hN : 26 ≤ zz_N G) : ∀ (m : zz_Mem), zz_Con zz_shM l G mX12_mover 7 [.ref (zz_a G 0)] zz_vI zz_m2 (f_X12_mover m) m := by
  intro m
  refine zz_con (lv := [(0, .ref (zz_a G 0))]) (by decide +kernel) (Nat.le_of_ble_eq_true rfl) rfl ?_
  unfold f_X12_mover
  refine zs_aload_n dX12_mover_0 rfl 0 rfl ?_
  refine zs_iconst (v := (0 : Int32)) dX12_mover_1 ci_0 ?_
  refine zs_putI fl_X12_1 dX12_mover_2 (shm_0 hN) rfl ⟨rfl, rfl⟩ (fun m1 => ?_)
  refine zs_iconst (v := (-1 : Int32)) dX12_mover_5 ci_m1 ?_
  refine zs_istore_n [(1, .int (-1 : Int32)), (0, .ref (zz_a G 0))] dX12_mover_6 rfl (Nat.le_of_ble_eq_true rfl) rfl ?_
  refine zs_ldc2 (v := (-1 : Int64)) dX12_mover_7 kc_X12_413 ?_
  refine zs_lstore_n [(2, .long (-1 : Int64)), (1, .int (-1 : Int32)), (0, .ref (zz_a G 0))] dX12_mover_10 rfl (Nat.le_of_ble_eq_true rfl) rfl ?_
  refine zs_aload_n dX12_mover_11 rfl 2 rfl ?_
  refine zs_cV_jW (rest := []) (k_X12_worthNow hN  _) dX12_mover_12 lv_X12_405 ok_X12_worthNow (zz_rcv_o (shm_0 hN) rfl) (Nat.le_of_ble_eq_true rfl) rfl rfl (Nat.le_of_ble_eq_true rfl) (fun r2 m3 => ?_)
  refine zs_lstore [(4, .long r2), (2, .long (-1 : Int64)), (1, .int (-1 : Int32)), (0, .ref (zz_a G 0))] dX12_mover_15 (Nat.le_of_ble_eq_true rfl) rfl ?_
  refine zs_iconst (v := (0 : Int32)) dX12_mover_17 ci_0 ?_
  refine zs_istore [(6, .int (0 : Int32)), (4, .long r2), (2, .long (-1 : Int64)), (1, .int (-1 : Int32)), (0, .ref (zz_a G 0))] dX12_mover_18 (Nat.le_of_ble_eq_true rfl) rfl ?_
  refine zs_sub [4, 3, 2, 1, 0] rfl ?_
  exact t_X12_mover_20 hN zz_fuel _ _ _ _ _
/-! X12_breaks: PillarDeskModel.breaks(I)I -/
theorem dX12_breaks_0 : decode cX12_breaks 0 = .ok (.aload_n 0, 1) := by decide +kernel
theorem dX12_breaks_1 : decode cX12_breaks 1 = .ok (.iconst 0, 1) := by decide +kernel
theorem dX12_breaks_2 : decode cX12_breaks 2 = .ok (.putfield 1, 3) := by decide +kernel
theorem dX12_breaks_5 : decode cX12_breaks 5 = .ok (.aload_n 0, 1) := by decide +kernel
theorem dX12_breaks_6 : decode cX12_breaks 6 = .ok (.iload_n 1, 1) := by decide +kernel
theorem dX12_breaks_7 : decode cX12_breaks 7 = .ok (.i2l, 1) := by decide +kernel
theorem dX12_breaks_8 : decode cX12_breaks 8 = .ok (.invokevirtual 262, 3) := by decide +kernel
theorem dX12_breaks_11 : decode cX12_breaks 11 = .ok (.ifCond .ne 6, 3) := by decide +kernel
theorem dX12_breaks_14 : decode cX12_breaks 14 = .ok (.bipush (-2), 2) := by decide +kernel
theorem dX12_breaks_16 : decode cX12_breaks 16 = .ok (.ireturn, 1) := by decide +kernel
theorem dX12_breaks_17 : decode cX12_breaks 17 = .ok (.aload_n 0, 1) := by decide +kernel
theorem dX12_breaks_18 : decode cX12_breaks 18 = .ok (.invokevirtual 405, 3) := by decide +kernel
theorem dX12_breaks_21 : decode cX12_breaks 21 = .ok (.lstore_n 2, 1) := by decide +kernel
theorem dX12_breaks_22 : decode cX12_breaks 22 = .ok (.lload_n 2, 1) := by decide +kernel
theorem dX12_breaks_23 : decode cX12_breaks 23 = .ok (.lconst 0, 1) := by decide +kernel
theorem dX12_breaks_24 : decode cX12_breaks 24 = .ok (.lcmp, 1) := by decide +kernel
theorem dX12_breaks_25 : decode cX12_breaks 25 = .ok (.ifCond .ne 5, 3) := by decide +kernel
theorem dX12_breaks_28 : decode cX12_breaks 28 = .ok (.iconst (-1), 1) := by decide +kernel
theorem dX12_breaks_29 : decode cX12_breaks 29 = .ok (.ireturn, 1) := by decide +kernel
theorem dX12_breaks_30 : decode cX12_breaks 30 = .ok (.iconst 0, 1) := by decide +kernel
theorem dX12_breaks_31 : decode cX12_breaks 31 = .ok (.istore 4, 2) := by decide +kernel
theorem dX12_breaks_33 : decode cX12_breaks 33 = .ok (.iload 4, 2) := by decide +kernel
theorem dX12_breaks_35 : decode cX12_breaks 35 = .ok (.sipush 999, 3) := by decide +kernel
theorem dX12_breaks_38 : decode cX12_breaks 38 = .ok (.if_icmp .gt 54, 3) := by decide +kernel
theorem dX12_breaks_41 : decode cX12_breaks 41 = .ok (.aload_n 0, 1) := by decide +kernel
theorem dX12_breaks_42 : decode cX12_breaks 42 = .ok (.iload_n 1, 1) := by decide +kernel
theorem dX12_breaks_43 : decode cX12_breaks 43 = .ok (.iload 4, 2) := by decide +kernel
theorem dX12_breaks_45 : decode cX12_breaks 45 = .ok (.invokevirtual 408, 3) := by decide +kernel
theorem dX12_breaks_48 : decode cX12_breaks 48 = .ok (.lstore 5, 2) := by decide +kernel
theorem dX12_breaks_50 : decode cX12_breaks 50 = .ok (.lload 5, 2) := by decide +kernel
theorem dX12_breaks_52 : decode cX12_breaks 52 = .ok (.lconst 0, 1) := by decide +kernel
theorem dX12_breaks_53 : decode cX12_breaks 53 = .ok (.lcmp, 1) := by decide +kernel
theorem dX12_breaks_54 : decode cX12_breaks 54 = .ok (.ifCond .eq 29, 3) := by decide +kernel
theorem dX12_breaks_57 : decode cX12_breaks 57 = .ok (.lload 5, 2) := by decide +kernel
theorem dX12_breaks_59 : decode cX12_breaks 59 = .ok (.lconst 0, 1) := by decide +kernel
theorem dX12_breaks_60 : decode cX12_breaks 60 = .ok (.lcmp, 1) := by decide +kernel
theorem dX12_breaks_61 : decode cX12_breaks 61 = .ok (.ifCond .ge 7, 3) := by decide +kernel
theorem dX12_breaks_64 : decode cX12_breaks 64 = .ok (.iconst 1, 1) := by decide +kernel
theorem dX12_breaks_65 : decode cX12_breaks 65 = .ok (.goto 4, 3) := by decide +kernel
theorem dX12_breaks_68 : decode cX12_breaks 68 = .ok (.iconst 0, 1) := by decide +kernel
theorem dX12_breaks_69 : decode cX12_breaks 69 = .ok (.lload_n 2, 1) := by decide +kernel
theorem dX12_breaks_70 : decode cX12_breaks 70 = .ok (.lconst 0, 1) := by decide +kernel
theorem dX12_breaks_71 : decode cX12_breaks 71 = .ok (.lcmp, 1) := by decide +kernel
theorem dX12_breaks_72 : decode cX12_breaks 72 = .ok (.ifCond .ge 7, 3) := by decide +kernel
theorem dX12_breaks_75 : decode cX12_breaks 75 = .ok (.iconst 1, 1) := by decide +kernel
theorem dX12_breaks_76 : decode cX12_breaks 76 = .ok (.goto 4, 3) := by decide +kernel
theorem dX12_breaks_79 : decode cX12_breaks 79 = .ok (.iconst 0, 1) := by decide +kernel
theorem dX12_breaks_80 : decode cX12_breaks 80 = .ok (.if_icmp .eq 6, 3) := by decide +kernel
theorem dX12_breaks_83 : decode cX12_breaks 83 = .ok (.iload 4, 2) := by decide +kernel
theorem dX12_breaks_85 : decode cX12_breaks 85 = .ok (.ireturn, 1) := by decide +kernel
theorem dX12_breaks_86 : decode cX12_breaks 86 = .ok (.iinc 4 1, 3) := by decide +kernel
theorem dX12_breaks_89 : decode cX12_breaks 89 = .ok (.goto (-56), 3) := by decide +kernel
theorem dX12_breaks_92 : decode cX12_breaks 92 = .ok (.iconst (-1), 1) := by decide +kernel
theorem dX12_breaks_93 : decode cX12_breaks 93 = .ok (.ireturn, 1) := by decide +kernel
def f_X12_breaks_80  (k33 : Int32 → Int64 → Int32 → zz_Mem → Option (Int32 × zz_Mem)) (v1 : Int32) (v2 : Int64) (v4 : Int32) (s0 : Int32) (s1 : Int32) (m : zz_Mem) : Option (Int32 × zz_Mem) :=
  if s1 = s0 then (
  zz_letI (v4 + (1 : Int32)) fun x1 =>
  k33 v1 v2 x1 m)
  else (
  some (v4, m))
theorem t_X12_breaks_80 {l : Launch} {G : zz_G} (hN : 26 ≤ zz_N G) {k33 : Int32 → Int64 → Int32 → zz_Mem → Option (Int32 × zz_Mem)} (hk33 : ∀ (v1 : Int32) (v2 : Int64) (v4 : Int32) (m : zz_Mem), zz_Sim zz_shM l G mX12_breaks 7 zz_vI zz_m2 (k33 v1 v2 v4 m) 33 [(0, .ref (zz_a G 0)), (1, .int v1), (2, .long v2), (4, .int v4)] [] m) : ∀ (v1 : Int32) (v2 : Int64) (v4 : Int32) (s0 : Int32) (s1 : Int32) (m : zz_Mem), zz_Sim zz_shM l G mX12_breaks 7 zz_vI zz_m2 (f_X12_breaks_80 k33 v1 v2 v4 s0 s1 m) 80 [(0, .ref (zz_a G 0)), (1, .int v1), (2, .long v2), (4, .int v4)] [.int s0, .int s1] m := by
  intro v1 v2 v4 s0 s1 m
  unfold f_X12_breaks_80
  refine zs_icmp_eq (tgt := 86) dX12_breaks_80 (by decide) ?_ ?_
  · refine zs_iinc (fun y => [(4, .int y), (0, .ref (zz_a G 0)), (1, .int v1), (2, .long v2)]) dX12_breaks_86 3 rfl ci_1 (Nat.le_of_ble_eq_true rfl) (fun _ => rfl) (fun x1 => ?_)
    refine zs_goto (tgt := 33) dX12_breaks_89 (by decide) ?_
    refine zs_sub [1, 2, 3, 0] rfl ?_
    exact hk33 _ _ _ _
  · refine zs_iload dX12_breaks_83 3 rfl ?_
    exact zs_iret dX12_breaks_85 rfl rfl rfl
def f_X12_breaks_69  (k33 : Int32 → Int64 → Int32 → zz_Mem → Option (Int32 × zz_Mem)) (v1 : Int32) (v2 : Int64) (v4 : Int32) (s0 : Int32) (m : zz_Mem) : Option (Int32 × zz_Mem) :=
  if (0 : Int64) ≤ v2 then (
  f_X12_breaks_80 k33 v1 v2 v4 (0 : Int32) s0 m)
  else (
  f_X12_breaks_80 k33 v1 v2 v4 (1 : Int32) s0 m)
theorem t_X12_breaks_69 {l : Launch} {G : zz_G} (hN : 26 ≤ zz_N G) {k33 : Int32 → Int64 → Int32 → zz_Mem → Option (Int32 × zz_Mem)} (hk33 : ∀ (v1 : Int32) (v2 : Int64) (v4 : Int32) (m : zz_Mem), zz_Sim zz_shM l G mX12_breaks 7 zz_vI zz_m2 (k33 v1 v2 v4 m) 33 [(0, .ref (zz_a G 0)), (1, .int v1), (2, .long v2), (4, .int v4)] [] m) : ∀ (v1 : Int32) (v2 : Int64) (v4 : Int32) (s0 : Int32) (m : zz_Mem), zz_Sim zz_shM l G mX12_breaks 7 zz_vI zz_m2 (f_X12_breaks_69 k33 v1 v2 v4 s0 m) 69 [(0, .ref (zz_a G 0)), (1, .int v1), (2, .long v2), (4, .int v4)] [.int s0] m := by
  intro v1 v2 v4 s0 m
  unfold f_X12_breaks_69
  refine zs_lload_n dX12_breaks_69 rfl 2 rfl ?_
  refine zs_lconst (v := (0 : Int64)) dX12_breaks_70 rfl ?_
  refine zs_lcmp_ge (tgt := 79) dX12_breaks_71 dX12_breaks_72 (by decide) ?_ ?_
  · refine zs_iconst (v := (0 : Int32)) dX12_breaks_79 ci_0 ?_
    exact t_X12_breaks_80 hN hk33 _ _ _ _ _ _
  · refine zs_iconst (v := (1 : Int32)) dX12_breaks_75 ci_1 ?_
    refine zs_goto (tgt := 80) dX12_breaks_76 (by decide) ?_
    exact t_X12_breaks_80 hN hk33 _ _ _ _ _ _
def f_X12_breaks_33   : Nat → Int32 → Int64 → Int32 → zz_Mem → Option (Int32 × zz_Mem)
  | 0, _, _, _, _ => none
  | n + 1, v1, v2, v4, m =>
  if (999 : Int32) < v4 then (
  some ((-1 : Int32), m))
  else (
  zz_bnd (f_X12_worthWith v1 v4 m) fun r1 m2 =>
  if r1 = (0 : Int64) then (
  some (v4, m2))
  else (
  if (0 : Int64) ≤ r1 then (
  f_X12_breaks_69 (f_X12_breaks_33 n) v1 v2 v4 (0 : Int32) m2)
  else (
  f_X12_breaks_69 (f_X12_breaks_33 n) v1 v2 v4 (1 : Int32) m2)))
theorem t_X12_breaks_33 {l : Launch} {G : zz_G} (hN : 26 ≤ zz_N G)  : ∀ (n : Nat) (v1 : Int32) (v2 : Int64) (v4 : Int32) (m : zz_Mem), zz_Sim zz_shM l G mX12_breaks 7 zz_vI zz_m2 (f_X12_breaks_33 n v1 v2 v4 m) 33 [(0, .ref (zz_a G 0)), (1, .int v1), (2, .long v2), (4, .int v4)] [] m := by
  intro n
  induction n with
  | zero => intro _ _ _ _; exact zs_none
  | succ n ih =>
    intro v1 v2 v4 m
    rw [f_X12_breaks_33]
    refine zs_iload dX12_breaks_33 3 rfl ?_
    refine zs_sipush (v := (999 : Int32)) dX12_breaks_35 cs_999 ?_
    refine zs_icmp_gt (tgt := 92) dX12_breaks_38 (by decide) ?_ ?_
    · refine zs_iconst (v := (-1 : Int32)) dX12_breaks_92 ci_m1 ?_
      exact zs_iret dX12_breaks_93 rfl rfl rfl
    · refine zs_aload_n dX12_breaks_41 rfl 0 rfl ?_
      refine zs_iload_n dX12_breaks_42 rfl 1 rfl ?_
      refine zs_iload dX12_breaks_43 3 rfl ?_
      refine zs_cV_jW (rest := []) (k_X12_worthWith hN _ _ _) dX12_breaks_45 lv_X12_408 ok_X12_worthWith (zz_rcv_o (shm_0 hN) rfl) (Nat.le_of_ble_eq_true rfl) rfl rfl (Nat.le_of_ble_eq_true rfl) (fun r1 m2 => ?_)
      refine zs_lstore [(5, .long r1), (0, .ref (zz_a G 0)), (1, .int v1), (2, .long v2), (4, .int v4)] dX12_breaks_48 (Nat.le_of_ble_eq_true rfl) rfl ?_
      refine zs_lload dX12_breaks_50 0 rfl ?_
      refine zs_lconst (v := (0 : Int64)) dX12_breaks_52 rfl ?_
      refine zs_lcmp_eq (tgt := 83) dX12_breaks_53 dX12_breaks_54 (by decide) ?_ ?_
      · refine zs_iload dX12_breaks_83 4 rfl ?_
        exact zs_iret dX12_breaks_85 rfl rfl rfl
      · refine zs_lload dX12_breaks_57 0 rfl ?_
        refine zs_lconst (v := (0 : Int64)) dX12_breaks_59 rfl ?_
        refine zs_lcmp_ge (tgt := 68) dX12_breaks_60 dX12_breaks_61 (by decide) ?_ ?_
        · refine zs_iconst (v := (0 : Int32)) dX12_breaks_68 ci_0 ?_
          refine zs_sub [1, 2, 3, 4] rfl ?_
          exact t_X12_breaks_69 hN ih _ _ _ _ _
        · refine zs_iconst (v := (1 : Int32)) dX12_breaks_64 ci_1 ?_
          refine zs_goto (tgt := 69) dX12_breaks_65 (by decide) ?_
          refine zs_sub [1, 2, 3, 4] rfl ?_
          exact t_X12_breaks_69 hN ih _ _ _ _ _
def f_X12_breaks  (p1 : Int32) (m : zz_Mem) : Option (Int32 × zz_Mem) :=
  zz_letM (zz_setI m 0 0 (0 : Int32)) fun m1 =>
  zz_bndR (f_X12_isInput m1 p1.toInt64) fun r2 =>
  if r2 = 0 then (
  some ((-2 : Int32), m1))
  else (
  zz_bnd (f_X12_worthNow m1) fun r3 m4 =>
  if r3 = (0 : Int64) then (
  some ((-1 : Int32), m4))
  else (
  f_X12_breaks_33 zz_fuel p1 r3 (0 : Int32) m4))
theorem k_X12_breaks {l : Launch} {G : zz_G} (hN : 26 ≤ zz_N G) : ∀ (p1 : Int32) (m : zz_Mem), zz_Con zz_shM l G mX12_breaks 7 [.ref (zz_a G 0), .int p1] zz_vI zz_m2 (f_X12_breaks p1 m) m := by
  intro p1 m
  refine zz_con (lv := [(0, .ref (zz_a G 0)), (1, .int p1)]) (by decide +kernel) (Nat.le_of_ble_eq_true rfl) rfl ?_
  unfold f_X12_breaks
  refine zs_aload_n dX12_breaks_0 rfl 0 rfl ?_
  refine zs_iconst (v := (0 : Int32)) dX12_breaks_1 ci_0 ?_
  refine zs_putI fl_X12_1 dX12_breaks_2 (shm_0 hN) rfl ⟨rfl, rfl⟩ (fun m1 => ?_)
  refine zs_aload_n dX12_breaks_5 rfl 0 rfl ?_
  refine zs_iload_n dX12_breaks_6 rfl 1 rfl ?_
  refine zs_i2l dX12_breaks_7 ?_
  refine zs_cV_iR (rest := []) (k_X12_isInput hN _ _) dX12_breaks_8 lv_X12_262 ok_X12_isInput (zz_rcv_o (shm_0 hN) rfl) (Nat.le_of_ble_eq_true rfl) rfl rfl (Nat.le_of_ble_eq_true rfl) (fun r2 => ?_)
  refine zs_if_ne (tgt := 17) dX12_breaks_11 (by decide) ?_ ?_
  · refine zs_aload_n dX12_breaks_17 rfl 0 rfl ?_
    refine zs_cV_jW (rest := []) (k_X12_worthNow hN  _) dX12_breaks_18 lv_X12_405 ok_X12_worthNow (zz_rcv_o (shm_0 hN) rfl) (Nat.le_of_ble_eq_true rfl) rfl rfl (Nat.le_of_ble_eq_true rfl) (fun r3 m4 => ?_)
    refine zs_lstore_n [(2, .long r3), (0, .ref (zz_a G 0)), (1, .int p1)] dX12_breaks_21 rfl (Nat.le_of_ble_eq_true rfl) rfl ?_
    refine zs_lload_n dX12_breaks_22 rfl 0 rfl ?_
    refine zs_lconst (v := (0 : Int64)) dX12_breaks_23 rfl ?_
    refine zs_lcmp_ne (tgt := 30) dX12_breaks_24 dX12_breaks_25 (by decide) ?_ ?_
    · refine zs_iconst (v := (0 : Int32)) dX12_breaks_30 ci_0 ?_
      refine zs_istore [(4, .int (0 : Int32)), (2, .long r3), (0, .ref (zz_a G 0)), (1, .int p1)] dX12_breaks_31 (Nat.le_of_ble_eq_true rfl) rfl ?_
      refine zs_sub [2, 3, 1, 0] rfl ?_
      exact t_X12_breaks_33 hN zz_fuel _ _ _ _
    · refine zs_iconst (v := (-1 : Int32)) dX12_breaks_28 ci_m1 ?_
      exact zs_iret dX12_breaks_29 rfl rfl rfl
  · refine zs_bipush (v := (-2 : Int32)) dX12_breaks_14 cb_m2 ?_
    exact zs_iret dX12_breaks_16 rfl rfl rfl
/-! X12_weightAt: PillarDeskModel.weightAt(II)I -/
theorem dX12_weightAt_0 : decode cX12_weightAt 0 = .ok (.aload_n 0, 1) := by decide +kernel
theorem dX12_weightAt_1 : decode cX12_weightAt 1 = .ok (.iload_n 2, 1) := by decide +kernel
theorem dX12_weightAt_2 : decode cX12_weightAt 2 = .ok (.invokevirtual 275, 3) := by decide +kernel
theorem dX12_weightAt_5 : decode cX12_weightAt 5 = .ok (.istore_n 3, 1) := by decide +kernel
theorem dX12_weightAt_6 : decode cX12_weightAt 6 = .ok (.iload_n 3, 1) := by decide +kernel
theorem dX12_weightAt_7 : decode cX12_weightAt 7 = .ok (.aload_n 0, 1) := by decide +kernel
theorem dX12_weightAt_8 : decode cX12_weightAt 8 = .ok (.getfield 272, 3) := by decide +kernel
theorem dX12_weightAt_11 : decode cX12_weightAt 11 = .ok (.iconst 1, 1) := by decide +kernel
theorem dX12_weightAt_12 : decode cX12_weightAt 12 = .ok (.isub, 1) := by decide +kernel
theorem dX12_weightAt_13 : decode cX12_weightAt 13 = .ok (.if_icmp .eq 13, 3) := by decide +kernel
theorem dX12_weightAt_16 : decode cX12_weightAt 16 = .ok (.aload_n 0, 1) := by decide +kernel
theorem dX12_weightAt_17 : decode cX12_weightAt 17 = .ok (.getfield 13, 3) := by decide +kernel
theorem dX12_weightAt_20 : decode cX12_weightAt 20 = .ok (.iconst 2, 1) := by decide +kernel
theorem dX12_weightAt_21 : decode cX12_weightAt 21 = .ok (.iaload, 1) := by decide +kernel
theorem dX12_weightAt_22 : decode cX12_weightAt 22 = .ok (.iconst 1, 1) := by decide +kernel
theorem dX12_weightAt_23 : decode cX12_weightAt 23 = .ok (.if_icmp .ne 16, 3) := by decide +kernel
theorem dX12_weightAt_26 : decode cX12_weightAt 26 = .ok (.iload_n 3, 1) := by decide +kernel
theorem dX12_weightAt_27 : decode cX12_weightAt 27 = .ok (.iload_n 1, 1) := by decide +kernel
theorem dX12_weightAt_28 : decode cX12_weightAt 28 = .ok (.if_icmp .ne 9, 3) := by decide +kernel
theorem dX12_weightAt_31 : decode cX12_weightAt 31 = .ok (.sipush 1000, 3) := by decide +kernel
theorem dX12_weightAt_34 : decode cX12_weightAt 34 = .ok (.goto 4, 3) := by decide +kernel
theorem dX12_weightAt_37 : decode cX12_weightAt 37 = .ok (.iconst 0, 1) := by decide +kernel
theorem dX12_weightAt_38 : decode cX12_weightAt 38 = .ok (.ireturn, 1) := by decide +kernel
theorem dX12_weightAt_39 : decode cX12_weightAt 39 = .ok (.iload_n 2, 1) := by decide +kernel
theorem dX12_weightAt_40 : decode cX12_weightAt 40 = .ok (.aload_n 0, 1) := by decide +kernel
theorem dX12_weightAt_41 : decode cX12_weightAt 41 = .ok (.getfield 54, 3) := by decide +kernel
theorem dX12_weightAt_44 : decode cX12_weightAt 44 = .ok (.iload_n 3, 1) := by decide +kernel
theorem dX12_weightAt_45 : decode cX12_weightAt 45 = .ok (.iaload, 1) := by decide +kernel
theorem dX12_weightAt_46 : decode cX12_weightAt 46 = .ok (.isub, 1) := by decide +kernel
theorem dX12_weightAt_47 : decode cX12_weightAt 47 = .ok (.sipush 1000, 3) := by decide +kernel
theorem dX12_weightAt_50 : decode cX12_weightAt 50 = .ok (.imul, 1) := by decide +kernel
theorem dX12_weightAt_51 : decode cX12_weightAt 51 = .ok (.aload_n 0, 1) := by decide +kernel
theorem dX12_weightAt_52 : decode cX12_weightAt 52 = .ok (.getfield 54, 3) := by decide +kernel
theorem dX12_weightAt_55 : decode cX12_weightAt 55 = .ok (.iload_n 3, 1) := by decide +kernel
theorem dX12_weightAt_56 : decode cX12_weightAt 56 = .ok (.iconst 1, 1) := by decide +kernel
theorem dX12_weightAt_57 : decode cX12_weightAt 57 = .ok (.iadd, 1) := by decide +kernel
theorem dX12_weightAt_58 : decode cX12_weightAt 58 = .ok (.iaload, 1) := by decide +kernel
theorem dX12_weightAt_59 : decode cX12_weightAt 59 = .ok (.aload_n 0, 1) := by decide +kernel
theorem dX12_weightAt_60 : decode cX12_weightAt 60 = .ok (.getfield 54, 3) := by decide +kernel
theorem dX12_weightAt_63 : decode cX12_weightAt 63 = .ok (.iload_n 3, 1) := by decide +kernel
theorem dX12_weightAt_64 : decode cX12_weightAt 64 = .ok (.iaload, 1) := by decide +kernel
theorem dX12_weightAt_65 : decode cX12_weightAt 65 = .ok (.isub, 1) := by decide +kernel
theorem dX12_weightAt_66 : decode cX12_weightAt 66 = .ok (.idiv, 1) := by decide +kernel
theorem dX12_weightAt_67 : decode cX12_weightAt 67 = .ok (.istore 4, 2) := by decide +kernel
theorem dX12_weightAt_69 : decode cX12_weightAt 69 = .ok (.iload_n 1, 1) := by decide +kernel
theorem dX12_weightAt_70 : decode cX12_weightAt 70 = .ok (.iload_n 3, 1) := by decide +kernel
theorem dX12_weightAt_71 : decode cX12_weightAt 71 = .ok (.if_icmp .ne 12, 3) := by decide +kernel
theorem dX12_weightAt_74 : decode cX12_weightAt 74 = .ok (.sipush 1000, 3) := by decide +kernel
theorem dX12_weightAt_77 : decode cX12_weightAt 77 = .ok (.iload 4, 2) := by decide +kernel
theorem dX12_weightAt_79 : decode cX12_weightAt 79 = .ok (.isub, 1) := by decide +kernel
theorem dX12_weightAt_80 : decode cX12_weightAt 80 = .ok (.goto 16, 3) := by decide +kernel
theorem dX12_weightAt_83 : decode cX12_weightAt 83 = .ok (.iload_n 1, 1) := by decide +kernel
theorem dX12_weightAt_84 : decode cX12_weightAt 84 = .ok (.iload_n 3, 1) := by decide +kernel
theorem dX12_weightAt_85 : decode cX12_weightAt 85 = .ok (.iconst 1, 1) := by decide +kernel
theorem dX12_weightAt_86 : decode cX12_weightAt 86 = .ok (.iadd, 1) := by decide +kernel
theorem dX12_weightAt_87 : decode cX12_weightAt 87 = .ok (.if_icmp .ne 8, 3) := by decide +kernel
theorem dX12_weightAt_90 : decode cX12_weightAt 90 = .ok (.iload 4, 2) := by decide +kernel
theorem dX12_weightAt_92 : decode cX12_weightAt 92 = .ok (.goto 4, 3) := by decide +kernel
theorem dX12_weightAt_95 : decode cX12_weightAt 95 = .ok (.iconst 0, 1) := by decide +kernel
theorem dX12_weightAt_96 : decode cX12_weightAt 96 = .ok (.ireturn, 1) := by decide +kernel
def f_X12_weightAt_26 (m : zz_Mem)  (v1 : Int32) (v3 : Int32) : Option Int32 :=
  if v3 = v1 then (
  some (1000 : Int32))
  else (
  some (0 : Int32))
theorem t_X12_weightAt_26 {l : Launch} {G : zz_G} (hN : 26 ≤ zz_N G) {m : zz_Mem}  : ∀ (v1 : Int32) (v3 : Int32), zz_Sim zz_shM l G mX12_weightAt 1 zz_vIr (zz_mC m) (f_X12_weightAt_26 m v1 v3) 26 [(1, .int v1), (3, .int v3)] [] m := by
  intro v1 v3
  unfold f_X12_weightAt_26
  refine zs_iload_n dX12_weightAt_26 rfl 1 rfl ?_
  refine zs_iload_n dX12_weightAt_27 rfl 0 rfl ?_
  refine zs_icmp_ne (tgt := 37) dX12_weightAt_28 (by decide) ?_ ?_
  · refine zs_iconst (v := (0 : Int32)) dX12_weightAt_37 ci_0 ?_
    exact zs_iret dX12_weightAt_38 rfl rfl rfl
  · refine zs_sipush (v := (1000 : Int32)) dX12_weightAt_31 cs_1000 ?_
    refine zs_goto (tgt := 38) dX12_weightAt_34 (by decide) ?_
    exact zs_iret dX12_weightAt_38 rfl rfl rfl
def f_X12_weightAt (m : zz_Mem) (p1 : Int32) (p2 : Int32) : Option Int32 :=
  zz_bndR (f_X12_pillarAt m p2) fun r1 =>
  if r1 = ((m.1 0 28) - (1 : Int32)) then (
  f_X12_weightAt_26 m p1 r1)
  else (
  if (m.1 1 2) = (1 : Int32) then (
  f_X12_weightAt_26 m p1 r1)
  else (
  zz_ix r1 9 <|
  zz_ix (r1 + (1 : Int32)) 9 <|
  zz_ix r1 9 <|
  zz_nz ((m.1 13 (r1 + (1 : Int32)).toNatClampNeg) - (m.1 13 r1.toNatClampNeg)) <|
  zz_letI (((p2 - (m.1 13 r1.toNatClampNeg)) * (1000 : Int32)) / ((m.1 13 (r1 + (1 : Int32)).toNatClampNeg) - (m.1 13 r1.toNatClampNeg))) fun x2 =>
  if p1 = r1 then (
  some ((1000 : Int32) - x2))
  else (
  if p1 = (r1 + (1 : Int32)) then (
  some x2)
  else (
  some (0 : Int32)))))
theorem k_X12_weightAt {l : Launch} {G : zz_G} (hN : 26 ≤ zz_N G) : ∀ (p1 : Int32) (p2 : Int32) (m : zz_Mem), zz_Con zz_shM l G mX12_weightAt 1 [.ref (zz_a G 0), .int p1, .int p2] zz_vIr (zz_mC m) (f_X12_weightAt m p1 p2) m := by
  intro p1 p2 m
  refine zz_con (lv := [(0, .ref (zz_a G 0)), (1, .int p1), (2, .int p2)]) (by decide +kernel) (Nat.le_of_ble_eq_true rfl) rfl ?_
  unfold f_X12_weightAt
  refine zs_aload_n dX12_weightAt_0 rfl 0 rfl ?_
  refine zs_iload_n dX12_weightAt_1 rfl 2 rfl ?_
  refine zs_cV_iR (rest := []) (k_X12_pillarAt hN _ _) dX12_weightAt_2 lv_X12_275 ok_X12_pillarAt (zz_rcv_o (shm_0 hN) rfl) (Nat.le_of_ble_eq_true rfl) rfl rfl (Nat.le_of_ble_eq_true rfl) (fun r1 => ?_)
  refine zs_istore_n [(3, .int r1), (0, .ref (zz_a G 0)), (1, .int p1), (2, .int p2)] dX12_weightAt_5 rfl (Nat.le_of_ble_eq_true rfl) rfl ?_
  refine zs_iload_n dX12_weightAt_6 rfl 0 rfl ?_
  refine zs_aload_n dX12_weightAt_7 rfl 1 rfl ?_
  refine zs_getI fl_X12_272 dX12_weightAt_8 (shm_0 hN) rfl ?_
  refine zs_iconst (v := (1 : Int32)) dX12_weightAt_11 ci_1 ?_
  refine zs_isub dX12_weightAt_12 ?_
  refine zs_icmp_eq (tgt := 26) dX12_weightAt_13 (by decide) ?_ ?_
  · refine zs_sub [2, 0] rfl ?_
    exact t_X12_weightAt_26 hN _ _
  · refine zs_aload_n dX12_weightAt_16 rfl 1 rfl ?_
    refine zs_getR fl_X12_13 dX12_weightAt_17 (shm_0 hN) rfl ?_
    refine zs_iconst (v := (2 : Int32)) dX12_weightAt_20 ci_2 ?_
    refine zs_ialdC dX12_weightAt_21 (shm_1 hN) vin_2_3531 clp_2 ?_
    refine zs_iconst (v := (1 : Int32)) dX12_weightAt_22 ci_1 ?_
    refine zs_icmp_ne (tgt := 39) dX12_weightAt_23 (by decide) ?_ ?_
    · refine zs_iload_n dX12_weightAt_39 rfl 3 rfl ?_
      refine zs_aload_n dX12_weightAt_40 rfl 1 rfl ?_
      refine zs_getR fl_X12_54 dX12_weightAt_41 (shm_0 hN) rfl ?_
      refine zs_iload_n dX12_weightAt_44 rfl 0 rfl ?_
      refine zs_ialdG dX12_weightAt_45 (shm_13 hN) ?_
      refine zs_isub dX12_weightAt_46 ?_
      refine zs_sipush (v := (1000 : Int32)) dX12_weightAt_47 cs_1000 ?_
      refine zs_imul dX12_weightAt_50 ?_
      refine zs_aload_n dX12_weightAt_51 rfl 1 rfl ?_
      refine zs_getR fl_X12_54 dX12_weightAt_52 (shm_0 hN) rfl ?_
      refine zs_iload_n dX12_weightAt_55 rfl 0 rfl ?_
      refine zs_iconst (v := (1 : Int32)) dX12_weightAt_56 ci_1 ?_
      refine zs_iadd dX12_weightAt_57 ?_
      refine zs_ialdG dX12_weightAt_58 (shm_13 hN) ?_
      refine zs_aload_n dX12_weightAt_59 rfl 1 rfl ?_
      refine zs_getR fl_X12_54 dX12_weightAt_60 (shm_0 hN) rfl ?_
      refine zs_iload_n dX12_weightAt_63 rfl 0 rfl ?_
      refine zs_ialdG dX12_weightAt_64 (shm_13 hN) ?_
      refine zs_isub dX12_weightAt_65 ?_
      refine zs_idivG dX12_weightAt_66 ?_
      refine zs_letI (fun x2 => ?_)
      refine zs_istore [(4, .int x2), (3, .int r1), (0, .ref (zz_a G 0)), (1, .int p1), (2, .int p2)] dX12_weightAt_67 (Nat.le_of_ble_eq_true rfl) rfl ?_
      refine zs_iload_n dX12_weightAt_69 rfl 3 rfl ?_
      refine zs_iload_n dX12_weightAt_70 rfl 1 rfl ?_
      refine zs_icmp_ne (tgt := 83) dX12_weightAt_71 (by decide) ?_ ?_
      · refine zs_iload_n dX12_weightAt_83 rfl 3 rfl ?_
        refine zs_iload_n dX12_weightAt_84 rfl 1 rfl ?_
        refine zs_iconst (v := (1 : Int32)) dX12_weightAt_85 ci_1 ?_
        refine zs_iadd dX12_weightAt_86 ?_
        refine zs_icmp_ne (tgt := 95) dX12_weightAt_87 (by decide) ?_ ?_
        · refine zs_iconst (v := (0 : Int32)) dX12_weightAt_95 ci_0 ?_
          exact zs_iret dX12_weightAt_96 rfl rfl rfl
        · refine zs_iload dX12_weightAt_90 0 rfl ?_
          refine zs_goto (tgt := 96) dX12_weightAt_92 (by decide) ?_
          exact zs_iret dX12_weightAt_96 rfl rfl rfl
      · refine zs_sipush (v := (1000 : Int32)) dX12_weightAt_74 cs_1000 ?_
        refine zs_iload dX12_weightAt_77 0 rfl ?_
        refine zs_isub dX12_weightAt_79 ?_
        refine zs_goto (tgt := 96) dX12_weightAt_80 (by decide) ?_
        exact zs_iret dX12_weightAt_96 rfl rfl rfl
    · refine zs_sub [2, 0] rfl ?_
      exact t_X12_weightAt_26 hN _ _
/-! X12_hangOf: PillarDeskModel.hangOf(I)J -/
theorem dX12_hangOf_0 : decode cX12_hangOf 0 = .ok (.lconst 0, 1) := by decide +kernel
theorem dX12_hangOf_1 : decode cX12_hangOf 1 = .ok (.lstore_n 2, 1) := by decide +kernel
theorem dX12_hangOf_2 : decode cX12_hangOf 2 = .ok (.iconst 0, 1) := by decide +kernel
theorem dX12_hangOf_3 : decode cX12_hangOf 3 = .ok (.istore 4, 2) := by decide +kernel
theorem dX12_hangOf_5 : decode cX12_hangOf 5 = .ok (.iload 4, 2) := by decide +kernel
theorem dX12_hangOf_7 : decode cX12_hangOf 7 = .ok (.aload_n 0, 1) := by decide +kernel
theorem dX12_hangOf_8 : decode cX12_hangOf 8 = .ok (.getfield 13, 3) := by decide +kernel
theorem dX12_hangOf_11 : decode cX12_hangOf 11 = .ok (.iconst 5, 1) := by decide +kernel
theorem dX12_hangOf_12 : decode cX12_hangOf 12 = .ok (.iaload, 1) := by decide +kernel
theorem dX12_hangOf_13 : decode cX12_hangOf 13 = .ok (.if_icmp .ge 40, 3) := by decide +kernel
theorem dX12_hangOf_16 : decode cX12_hangOf 16 = .ok (.lload_n 2, 1) := by decide +kernel
theorem dX12_hangOf_17 : decode cX12_hangOf 17 = .ok (.aload_n 0, 1) := by decide +kernel
theorem dX12_hangOf_18 : decode cX12_hangOf 18 = .ok (.getfield 13, 3) := by decide +kernel
theorem dX12_hangOf_21 : decode cX12_hangOf 21 = .ok (.bipush 75, 2) := by decide +kernel
theorem dX12_hangOf_23 : decode cX12_hangOf 23 = .ok (.iload 4, 2) := by decide +kernel
theorem dX12_hangOf_25 : decode cX12_hangOf 25 = .ok (.iadd, 1) := by decide +kernel
theorem dX12_hangOf_26 : decode cX12_hangOf 26 = .ok (.iaload, 1) := by decide +kernel
theorem dX12_hangOf_27 : decode cX12_hangOf 27 = .ok (.i2l, 1) := by decide +kernel
theorem dX12_hangOf_28 : decode cX12_hangOf 28 = .ok (.aload_n 0, 1) := by decide +kernel
theorem dX12_hangOf_29 : decode cX12_hangOf 29 = .ok (.iload_n 1, 1) := by decide +kernel
theorem dX12_hangOf_30 : decode cX12_hangOf 30 = .ok (.aload_n 0, 1) := by decide +kernel
theorem dX12_hangOf_31 : decode cX12_hangOf 31 = .ok (.getfield 13, 3) := by decide +kernel
theorem dX12_hangOf_34 : decode cX12_hangOf 34 = .ok (.bipush 56, 2) := by decide +kernel
theorem dX12_hangOf_36 : decode cX12_hangOf 36 = .ok (.iload 4, 2) := by decide +kernel
theorem dX12_hangOf_38 : decode cX12_hangOf 38 = .ok (.iadd, 1) := by decide +kernel
theorem dX12_hangOf_39 : decode cX12_hangOf 39 = .ok (.iaload, 1) := by decide +kernel
theorem dX12_hangOf_40 : decode cX12_hangOf 40 = .ok (.invokevirtual 415, 3) := by decide +kernel
theorem dX12_hangOf_43 : decode cX12_hangOf 43 = .ok (.i2l, 1) := by decide +kernel
theorem dX12_hangOf_44 : decode cX12_hangOf 44 = .ok (.lmul, 1) := by decide +kernel
theorem dX12_hangOf_45 : decode cX12_hangOf 45 = .ok (.ladd, 1) := by decide +kernel
theorem dX12_hangOf_46 : decode cX12_hangOf 46 = .ok (.lstore_n 2, 1) := by decide +kernel
theorem dX12_hangOf_47 : decode cX12_hangOf 47 = .ok (.iinc 4 1, 3) := by decide +kernel
theorem dX12_hangOf_50 : decode cX12_hangOf 50 = .ok (.goto (-45), 3) := by decide +kernel
theorem dX12_hangOf_53 : decode cX12_hangOf 53 = .ok (.lload_n 2, 1) := by decide +kernel
theorem dX12_hangOf_54 : decode cX12_hangOf 54 = .ok (.lreturn, 1) := by decide +kernel
def f_X12_hangOf_5 (m : zz_Mem)  : Nat → Int32 → Int64 → Int32 → Option Int64
  | 0, _, _, _ => none
  | n + 1, v1, v2, v4 =>
  if (m.1 1 5) ≤ v4 then (
  some v2)
  else (
  zz_ix ((75 : Int32) + v4) 3531 <|
  zz_ix ((56 : Int32) + v4) 3531 <|
  zz_bndR (f_X12_weightAt m v1 (m.1 1 ((56 : Int32) + v4).toNatClampNeg)) fun r1 =>
  zz_letJ (v2 + (((m.1 1 ((75 : Int32) + v4).toNatClampNeg).toInt64) * r1.toInt64)) fun y2 =>
  zz_letI (v4 + (1 : Int32)) fun x3 =>
  f_X12_hangOf_5 m n v1 y2 x3)
theorem t_X12_hangOf_5 {l : Launch} {G : zz_G} (hN : 26 ≤ zz_N G) {m : zz_Mem}  : ∀ (n : Nat) (v1 : Int32) (v2 : Int64) (v4 : Int32), zz_Sim zz_shM l G mX12_hangOf 2 zz_vJr (zz_mC m) (f_X12_hangOf_5 m n v1 v2 v4) 5 [(0, .ref (zz_a G 0)), (1, .int v1), (2, .long v2), (4, .int v4)] [] m := by
  intro n
  induction n with
  | zero => intro _ _ _; exact zs_none
  | succ n ih =>
    intro v1 v2 v4
    rw [f_X12_hangOf_5]
    refine zs_iload dX12_hangOf_5 3 rfl ?_
    refine zs_aload_n dX12_hangOf_7 rfl 0 rfl ?_
    refine zs_getR fl_X12_13 dX12_hangOf_8 (shm_0 hN) rfl ?_
    refine zs_iconst (v := (5 : Int32)) dX12_hangOf_11 ci_5 ?_
    refine zs_ialdC dX12_hangOf_12 (shm_1 hN) vin_5_3531 clp_5 ?_
    refine zs_icmp_ge (tgt := 53) dX12_hangOf_13 (by decide) ?_ ?_
    · refine zs_lload_n dX12_hangOf_53 rfl 2 rfl ?_
      exact zs_lret dX12_hangOf_54 rfl rfl rfl
    · refine zs_lload_n dX12_hangOf_16 rfl 2 rfl ?_
      refine zs_aload_n dX12_hangOf_17 rfl 0 rfl ?_
      refine zs_getR fl_X12_13 dX12_hangOf_18 (shm_0 hN) rfl ?_
      refine zs_bipush (v := (75 : Int32)) dX12_hangOf_21 cb_75 ?_
      refine zs_iload dX12_hangOf_23 3 rfl ?_
      refine zs_iadd dX12_hangOf_25 ?_
      refine zs_ialdG dX12_hangOf_26 (shm_1 hN) ?_
      refine zs_i2l dX12_hangOf_27 ?_
      refine zs_aload_n dX12_hangOf_28 rfl 0 rfl ?_
      refine zs_iload_n dX12_hangOf_29 rfl 1 rfl ?_
      refine zs_aload_n dX12_hangOf_30 rfl 0 rfl ?_
      refine zs_getR fl_X12_13 dX12_hangOf_31 (shm_0 hN) rfl ?_
      refine zs_bipush (v := (56 : Int32)) dX12_hangOf_34 cb_56 ?_
      refine zs_iload dX12_hangOf_36 3 rfl ?_
      refine zs_iadd dX12_hangOf_38 ?_
      refine zs_ialdG dX12_hangOf_39 (shm_1 hN) ?_
      refine zs_cV_iR (rest := [.long ((m.1 1 ((75 : Int32) + v4).toNatClampNeg).toInt64), .long v2]) (k_X12_weightAt hN _ _ _) dX12_hangOf_40 lv_X12_415 ok_X12_weightAt (zz_rcv_o (shm_0 hN) rfl) (Nat.le_of_ble_eq_true rfl) rfl rfl (Nat.le_of_ble_eq_true rfl) (fun r1 => ?_)
      refine zs_i2l dX12_hangOf_43 ?_
      refine zs_lmul dX12_hangOf_44 ?_
      refine zs_ladd dX12_hangOf_45 ?_
      refine zs_letJ (fun y2 => ?_)
      refine zs_lstore_n [(2, .long y2), (0, .ref (zz_a G 0)), (1, .int v1), (4, .int v4)] dX12_hangOf_46 rfl (Nat.le_of_ble_eq_true rfl) rfl ?_
      refine zs_iinc (fun y => [(4, .int y), (2, .long y2), (0, .ref (zz_a G 0)), (1, .int v1)]) dX12_hangOf_47 3 rfl ci_1 (Nat.le_of_ble_eq_true rfl) (fun _ => rfl) (fun x3 => ?_)
      refine zs_goto (tgt := 5) dX12_hangOf_50 (by decide) ?_
      refine zs_sub [2, 3, 1, 0] rfl ?_
      exact ih _ _ _
def f_X12_hangOf (m : zz_Mem) (p1 : Int32) : Option Int64 :=
  f_X12_hangOf_5 m zz_fuel p1 (0 : Int64) (0 : Int32)
theorem k_X12_hangOf {l : Launch} {G : zz_G} (hN : 26 ≤ zz_N G) : ∀ (p1 : Int32) (m : zz_Mem), zz_Con zz_shM l G mX12_hangOf 2 [.ref (zz_a G 0), .int p1] zz_vJr (zz_mC m) (f_X12_hangOf m p1) m := by
  intro p1 m
  refine zz_con (lv := [(0, .ref (zz_a G 0)), (1, .int p1)]) (by decide +kernel) (Nat.le_of_ble_eq_true rfl) rfl ?_
  unfold f_X12_hangOf
  refine zs_lconst (v := (0 : Int64)) dX12_hangOf_0 rfl ?_
  refine zs_lstore_n [(2, .long (0 : Int64)), (0, .ref (zz_a G 0)), (1, .int p1)] dX12_hangOf_1 rfl (Nat.le_of_ble_eq_true rfl) rfl ?_
  refine zs_iconst (v := (0 : Int32)) dX12_hangOf_2 ci_0 ?_
  refine zs_istore [(4, .int (0 : Int32)), (2, .long (0 : Int64)), (0, .ref (zz_a G 0)), (1, .int p1)] dX12_hangOf_3 (Nat.le_of_ble_eq_true rfl) rfl ?_
  refine zs_sub [2, 3, 1, 0] rfl ?_
  exact t_X12_hangOf_5 hN zz_fuel _ _ _
/-! X12_pieceOn: PillarDeskModel.pieceOn(II)J -/
theorem dX12_pieceOn_0 : decode cX12_pieceOn 0 = .ok (.aload_n 0, 1) := by decide +kernel
theorem dX12_pieceOn_1 : decode cX12_pieceOn 1 = .ok (.getfield 13, 3) := by decide +kernel
theorem dX12_pieceOn_4 : decode cX12_pieceOn 4 = .ok (.bipush 24, 2) := by decide +kernel
theorem dX12_pieceOn_6 : decode cX12_pieceOn 6 = .ok (.iload_n 1, 1) := by decide +kernel
theorem dX12_pieceOn_7 : decode cX12_pieceOn 7 = .ok (.iadd, 1) := by decide +kernel
theorem dX12_pieceOn_8 : decode cX12_pieceOn 8 = .ok (.iaload, 1) := by decide +kernel
theorem dX12_pieceOn_9 : decode cX12_pieceOn 9 = .ok (.iconst 2, 1) := by decide +kernel
theorem dX12_pieceOn_10 : decode cX12_pieceOn 10 = .ok (.if_icmp .ne 71, 3) := by decide +kernel
theorem dX12_pieceOn_13 : decode cX12_pieceOn 13 = .ok (.ldc2_w 282, 3) := by decide +kernel
theorem dX12_pieceOn_16 : decode cX12_pieceOn 16 = .ok (.aload_n 0, 1) := by decide +kernel
theorem dX12_pieceOn_17 : decode cX12_pieceOn 17 = .ok (.iload_n 2, 1) := by decide +kernel
theorem dX12_pieceOn_18 : decode cX12_pieceOn 18 = .ok (.aload_n 0, 1) := by decide +kernel
theorem dX12_pieceOn_19 : decode cX12_pieceOn 19 = .ok (.getfield 39, 3) := by decide +kernel
theorem dX12_pieceOn_22 : decode cX12_pieceOn 22 = .ok (.iload_n 1, 1) := by decide +kernel
theorem dX12_pieceOn_23 : decode cX12_pieceOn 23 = .ok (.iaload, 1) := by decide +kernel
theorem dX12_pieceOn_24 : decode cX12_pieceOn 24 = .ok (.invokevirtual 415, 3) := by decide +kernel
theorem dX12_pieceOn_27 : decode cX12_pieceOn 27 = .ok (.i2l, 1) := by decide +kernel
theorem dX12_pieceOn_28 : decode cX12_pieceOn 28 = .ok (.lmul, 1) := by decide +kernel
theorem dX12_pieceOn_29 : decode cX12_pieceOn 29 = .ok (.lstore_n 3, 1) := by decide +kernel
theorem dX12_pieceOn_30 : decode cX12_pieceOn 30 = .ok (.iconst 0, 1) := by decide +kernel
theorem dX12_pieceOn_31 : decode cX12_pieceOn 31 = .ok (.istore 5, 2) := by decide +kernel
theorem dX12_pieceOn_33 : decode cX12_pieceOn 33 = .ok (.iload 5, 2) := by decide +kernel
theorem dX12_pieceOn_35 : decode cX12_pieceOn 35 = .ok (.aload_n 0, 1) := by decide +kernel
theorem dX12_pieceOn_36 : decode cX12_pieceOn 36 = .ok (.getfield 45, 3) := by decide +kernel
theorem dX12_pieceOn_39 : decode cX12_pieceOn 39 = .ok (.iload_n 1, 1) := by decide +kernel
theorem dX12_pieceOn_40 : decode cX12_pieceOn 40 = .ok (.iaload, 1) := by decide +kernel
theorem dX12_pieceOn_41 : decode cX12_pieceOn 41 = .ok (.if_icmp .ge 38, 3) := by decide +kernel
theorem dX12_pieceOn_44 : decode cX12_pieceOn 44 = .ok (.lload_n 3, 1) := by decide +kernel
theorem dX12_pieceOn_45 : decode cX12_pieceOn 45 = .ok (.aload_n 0, 1) := by decide +kernel
theorem dX12_pieceOn_46 : decode cX12_pieceOn 46 = .ok (.iload_n 1, 1) := by decide +kernel
theorem dX12_pieceOn_47 : decode cX12_pieceOn 47 = .ok (.aload_n 0, 1) := by decide +kernel
theorem dX12_pieceOn_48 : decode cX12_pieceOn 48 = .ok (.iload_n 1, 1) := by decide +kernel
theorem dX12_pieceOn_49 : decode cX12_pieceOn 49 = .ok (.iload 5, 2) := by decide +kernel
theorem dX12_pieceOn_51 : decode cX12_pieceOn 51 = .ok (.invokevirtual 293, 3) := by decide +kernel
theorem dX12_pieceOn_54 : decode cX12_pieceOn 54 = .ok (.invokevirtual 284, 3) := by decide +kernel
theorem dX12_pieceOn_57 : decode cX12_pieceOn 57 = .ok (.aload_n 0, 1) := by decide +kernel
theorem dX12_pieceOn_58 : decode cX12_pieceOn 58 = .ok (.iload_n 2, 1) := by decide +kernel
theorem dX12_pieceOn_59 : decode cX12_pieceOn 59 = .ok (.aload_n 0, 1) := by decide +kernel
theorem dX12_pieceOn_60 : decode cX12_pieceOn 60 = .ok (.iload_n 1, 1) := by decide +kernel
theorem dX12_pieceOn_61 : decode cX12_pieceOn 61 = .ok (.iload 5, 2) := by decide +kernel
theorem dX12_pieceOn_63 : decode cX12_pieceOn 63 = .ok (.invokevirtual 251, 3) := by decide +kernel
theorem dX12_pieceOn_66 : decode cX12_pieceOn 66 = .ok (.invokevirtual 415, 3) := by decide +kernel
theorem dX12_pieceOn_69 : decode cX12_pieceOn 69 = .ok (.i2l, 1) := by decide +kernel
theorem dX12_pieceOn_70 : decode cX12_pieceOn 70 = .ok (.lmul, 1) := by decide +kernel
theorem dX12_pieceOn_71 : decode cX12_pieceOn 71 = .ok (.ladd, 1) := by decide +kernel
theorem dX12_pieceOn_72 : decode cX12_pieceOn 72 = .ok (.lstore_n 3, 1) := by decide +kernel
theorem dX12_pieceOn_73 : decode cX12_pieceOn 73 = .ok (.iinc 5 1, 3) := by decide +kernel
theorem dX12_pieceOn_76 : decode cX12_pieceOn 76 = .ok (.goto (-43), 3) := by decide +kernel
theorem dX12_pieceOn_79 : decode cX12_pieceOn 79 = .ok (.lload_n 3, 1) := by decide +kernel
theorem dX12_pieceOn_80 : decode cX12_pieceOn 80 = .ok (.lreturn, 1) := by decide +kernel
theorem dX12_pieceOn_81 : decode cX12_pieceOn 81 = .ok (.ldc2_w 282, 3) := by decide +kernel
theorem dX12_pieceOn_84 : decode cX12_pieceOn 84 = .ok (.aload_n 0, 1) := by decide +kernel
theorem dX12_pieceOn_85 : decode cX12_pieceOn 85 = .ok (.iload_n 1, 1) := by decide +kernel
theorem dX12_pieceOn_86 : decode cX12_pieceOn 86 = .ok (.aload_n 0, 1) := by decide +kernel
theorem dX12_pieceOn_87 : decode cX12_pieceOn 87 = .ok (.getfield 39, 3) := by decide +kernel
theorem dX12_pieceOn_90 : decode cX12_pieceOn 90 = .ok (.iload_n 1, 1) := by decide +kernel
theorem dX12_pieceOn_91 : decode cX12_pieceOn 91 = .ok (.iaload, 1) := by decide +kernel
theorem dX12_pieceOn_92 : decode cX12_pieceOn 92 = .ok (.aload_n 0, 1) := by decide +kernel
theorem dX12_pieceOn_93 : decode cX12_pieceOn 93 = .ok (.getfield 36, 3) := by decide +kernel
theorem dX12_pieceOn_96 : decode cX12_pieceOn 96 = .ok (.iload_n 1, 1) := by decide +kernel
theorem dX12_pieceOn_97 : decode cX12_pieceOn 97 = .ok (.iaload, 1) := by decide +kernel
theorem dX12_pieceOn_98 : decode cX12_pieceOn 98 = .ok (.isub, 1) := by decide +kernel
theorem dX12_pieceOn_99 : decode cX12_pieceOn 99 = .ok (.invokevirtual 284, 3) := by decide +kernel
theorem dX12_pieceOn_102 : decode cX12_pieceOn 102 = .ok (.ladd, 1) := by decide +kernel
theorem dX12_pieceOn_103 : decode cX12_pieceOn 103 = .ok (.aload_n 0, 1) := by decide +kernel
theorem dX12_pieceOn_104 : decode cX12_pieceOn 104 = .ok (.iload_n 2, 1) := by decide +kernel
theorem dX12_pieceOn_105 : decode cX12_pieceOn 105 = .ok (.aload_n 0, 1) := by decide +kernel
theorem dX12_pieceOn_106 : decode cX12_pieceOn 106 = .ok (.getfield 39, 3) := by decide +kernel
theorem dX12_pieceOn_109 : decode cX12_pieceOn 109 = .ok (.iload_n 1, 1) := by decide +kernel
theorem dX12_pieceOn_110 : decode cX12_pieceOn 110 = .ok (.iaload, 1) := by decide +kernel
theorem dX12_pieceOn_111 : decode cX12_pieceOn 111 = .ok (.invokevirtual 415, 3) := by decide +kernel
theorem dX12_pieceOn_114 : decode cX12_pieceOn 114 = .ok (.i2l, 1) := by decide +kernel
theorem dX12_pieceOn_115 : decode cX12_pieceOn 115 = .ok (.lmul, 1) := by decide +kernel
theorem dX12_pieceOn_116 : decode cX12_pieceOn 116 = .ok (.lstore_n 3, 1) := by decide +kernel
theorem dX12_pieceOn_117 : decode cX12_pieceOn 117 = .ok (.aload_n 0, 1) := by decide +kernel
theorem dX12_pieceOn_118 : decode cX12_pieceOn 118 = .ok (.getfield 13, 3) := by decide +kernel
theorem dX12_pieceOn_121 : decode cX12_pieceOn 121 = .ok (.bipush 24, 2) := by decide +kernel
theorem dX12_pieceOn_123 : decode cX12_pieceOn 123 = .ok (.iload_n 1, 1) := by decide +kernel
theorem dX12_pieceOn_124 : decode cX12_pieceOn 124 = .ok (.iadd, 1) := by decide +kernel
theorem dX12_pieceOn_125 : decode cX12_pieceOn 125 = .ok (.iaload, 1) := by decide +kernel
theorem dX12_pieceOn_126 : decode cX12_pieceOn 126 = .ok (.iconst 1, 1) := by decide +kernel
theorem dX12_pieceOn_127 : decode cX12_pieceOn 127 = .ok (.if_icmp .ne 24, 3) := by decide +kernel
theorem dX12_pieceOn_130 : decode cX12_pieceOn 130 = .ok (.lload_n 3, 1) := by decide +kernel
theorem dX12_pieceOn_131 : decode cX12_pieceOn 131 = .ok (.ldc2_w 282, 3) := by decide +kernel
theorem dX12_pieceOn_134 : decode cX12_pieceOn 134 = .ok (.aload_n 0, 1) := by decide +kernel
theorem dX12_pieceOn_135 : decode cX12_pieceOn 135 = .ok (.iload_n 2, 1) := by decide +kernel
theorem dX12_pieceOn_136 : decode cX12_pieceOn 136 = .ok (.aload_n 0, 1) := by decide +kernel
theorem dX12_pieceOn_137 : decode cX12_pieceOn 137 = .ok (.getfield 36, 3) := by decide +kernel
theorem dX12_pieceOn_140 : decode cX12_pieceOn 140 = .ok (.iload_n 1, 1) := by decide +kernel
theorem dX12_pieceOn_141 : decode cX12_pieceOn 141 = .ok (.iaload, 1) := by decide +kernel
theorem dX12_pieceOn_142 : decode cX12_pieceOn 142 = .ok (.invokevirtual 415, 3) := by decide +kernel
theorem dX12_pieceOn_145 : decode cX12_pieceOn 145 = .ok (.i2l, 1) := by decide +kernel
theorem dX12_pieceOn_146 : decode cX12_pieceOn 146 = .ok (.lmul, 1) := by decide +kernel
theorem dX12_pieceOn_147 : decode cX12_pieceOn 147 = .ok (.lsub, 1) := by decide +kernel
theorem dX12_pieceOn_148 : decode cX12_pieceOn 148 = .ok (.goto 4, 3) := by decide +kernel
theorem dX12_pieceOn_151 : decode cX12_pieceOn 151 = .ok (.lload_n 3, 1) := by decide +kernel
theorem dX12_pieceOn_152 : decode cX12_pieceOn 152 = .ok (.lreturn, 1) := by decide +kernel
def f_X12_pieceOn_33 (m : zz_Mem)  : Nat → Int32 → Int32 → Int64 → Int32 → Option Int64
  | 0, _, _, _, _ => none
  | n + 1, v1, v2, v3, v5 =>
  zz_ix v1 8 <|
  if (m.1 10 v1.toNatClampNeg) ≤ v5 then (
  some v3)
  else (
  zz_bndR (f_X12_lengthOf m v1 v5) fun r1 =>
  zz_bndR (f_X12_dueOf m v1 r1) fun r2 =>
  zz_bndR (f_X12_endOf m v1 v5) fun r3 =>
  zz_bndR (f_X12_weightAt m v2 r3) fun r4 =>
  zz_letJ (v3 + (r2 * r4.toInt64)) fun y5 =>
  zz_letI (v5 + (1 : Int32)) fun x6 =>
  f_X12_pieceOn_33 m n v1 v2 y5 x6)
theorem t_X12_pieceOn_33 {l : Launch} {G : zz_G} (hN : 26 ≤ zz_N G) {m : zz_Mem}  : ∀ (n : Nat) (v1 : Int32) (v2 : Int32) (v3 : Int64) (v5 : Int32), zz_Sim zz_shM l G mX12_pieceOn 2 zz_vJr (zz_mC m) (f_X12_pieceOn_33 m n v1 v2 v3 v5) 33 [(0, .ref (zz_a G 0)), (1, .int v1), (2, .int v2), (3, .long v3), (5, .int v5)] [] m := by
  intro n
  induction n with
  | zero => intro _ _ _ _; exact zs_none
  | succ n ih =>
    intro v1 v2 v3 v5
    rw [f_X12_pieceOn_33]
    refine zs_iload dX12_pieceOn_33 4 rfl ?_
    refine zs_aload_n dX12_pieceOn_35 rfl 0 rfl ?_
    refine zs_getR fl_X12_45 dX12_pieceOn_36 (shm_0 hN) rfl ?_
    refine zs_iload_n dX12_pieceOn_39 rfl 1 rfl ?_
    refine zs_ialdG dX12_pieceOn_40 (shm_10 hN) ?_
    refine zs_icmp_ge (tgt := 79) dX12_pieceOn_41 (by decide) ?_ ?_
    · refine zs_lload_n dX12_pieceOn_79 rfl 3 rfl ?_
      exact zs_lret dX12_pieceOn_80 rfl rfl rfl
    · refine zs_lload_n dX12_pieceOn_44 rfl 3 rfl ?_
      refine zs_aload_n dX12_pieceOn_45 rfl 0 rfl ?_
      refine zs_iload_n dX12_pieceOn_46 rfl 1 rfl ?_
      refine zs_aload_n dX12_pieceOn_47 rfl 0 rfl ?_
      refine zs_iload_n dX12_pieceOn_48 rfl 1 rfl ?_
      refine zs_iload dX12_pieceOn_49 4 rfl ?_
      refine zs_cV_iR (rest := [.int v1, .ref (zz_a G 0), .long v3]) (k_X12_lengthOf hN _ _ _) dX12_pieceOn_51 lv_X12_293 ok_X12_lengthOf (zz_rcv_o (shm_0 hN) rfl) (Nat.le_of_ble_eq_true rfl) rfl rfl (Nat.le_of_ble_eq_true rfl) (fun r1 => ?_)
      refine zs_cV_jR (rest := [.long v3]) (k_X12_dueOf hN _ _ _) dX12_pieceOn_54 lv_X12_284 ok_X12_dueOf (zz_rcv_o (shm_0 hN) rfl) (Nat.le_of_ble_eq_true rfl) rfl rfl (Nat.le_of_ble_eq_true rfl) (fun r2 => ?_)
      refine zs_aload_n dX12_pieceOn_57 rfl 0 rfl ?_
      refine zs_iload_n dX12_pieceOn_58 rfl 2 rfl ?_
      refine zs_aload_n dX12_pieceOn_59 rfl 0 rfl ?_
      refine zs_iload_n dX12_pieceOn_60 rfl 1 rfl ?_
      refine zs_iload dX12_pieceOn_61 4 rfl ?_
      refine zs_cV_iR (rest := [.int v2, .ref (zz_a G 0), .long r2, .long v3]) (k_X12_endOf hN _ _ _) dX12_pieceOn_63 lv_X12_251 ok_X12_endOf (zz_rcv_o (shm_0 hN) rfl) (Nat.le_of_ble_eq_true rfl) rfl rfl (Nat.le_of_ble_eq_true rfl) (fun r3 => ?_)
      refine zs_cV_iR (rest := [.long r2, .long v3]) (k_X12_weightAt hN _ _ _) dX12_pieceOn_66 lv_X12_415 ok_X12_weightAt (zz_rcv_o (shm_0 hN) rfl) (Nat.le_of_ble_eq_true rfl) rfl rfl (Nat.le_of_ble_eq_true rfl) (fun r4 => ?_)
      refine zs_i2l dX12_pieceOn_69 ?_
      refine zs_lmul dX12_pieceOn_70 ?_
      refine zs_ladd dX12_pieceOn_71 ?_
      refine zs_letJ (fun y5 => ?_)
      refine zs_lstore_n [(3, .long y5), (0, .ref (zz_a G 0)), (1, .int v1), (2, .int v2), (5, .int v5)] dX12_pieceOn_72 rfl (Nat.le_of_ble_eq_true rfl) rfl ?_
      refine zs_iinc (fun y => [(5, .int y), (3, .long y5), (0, .ref (zz_a G 0)), (1, .int v1), (2, .int v2)]) dX12_pieceOn_73 4 rfl ci_1 (Nat.le_of_ble_eq_true rfl) (fun _ => rfl) (fun x6 => ?_)
      refine zs_goto (tgt := 33) dX12_pieceOn_76 (by decide) ?_
      refine zs_sub [2, 3, 4, 1, 0] rfl ?_
      exact ih _ _ _ _
def f_X12_pieceOn (m : zz_Mem) (p1 : Int32) (p2 : Int32) : Option Int64 :=
  zz_ix ((24 : Int32) + p1) 3531 <|
  if (m.1 1 ((24 : Int32) + p1).toNatClampNeg) = (2 : Int32) then (
  zz_ix p1 8 <|
  zz_bndR (f_X12_weightAt m p2 (m.1 8 p1.toNatClampNeg)) fun r5 =>
  zz_letJ ((3600000 : Int64) * r5.toInt64) fun y6 =>
  f_X12_pieceOn_33 m zz_fuel p1 p2 y6 (0 : Int32))
  else (
  zz_ix p1 8 <|
  zz_ix p1 8 <|
  zz_bndR (f_X12_dueOf m p1 ((m.1 8 p1.toNatClampNeg) - (m.1 7 p1.toNatClampNeg))) fun r1 =>
  zz_ix p1 8 <|
  zz_bndR (f_X12_weightAt m p2 (m.1 8 p1.toNatClampNeg)) fun r2 =>
  zz_letJ (((3600000 : Int64) + r1) * r2.toInt64) fun y3 =>
  zz_ix ((24 : Int32) + p1) 3531 <|
  if (m.1 1 ((24 : Int32) + p1).toNatClampNeg) = (1 : Int32) then (
  zz_ix p1 8 <|
  zz_bndR (f_X12_weightAt m p2 (m.1 7 p1.toNatClampNeg)) fun r4 =>
  some (y3 - ((3600000 : Int64) * r4.toInt64)))
  else (
  some y3))
theorem k_X12_pieceOn {l : Launch} {G : zz_G} (hN : 26 ≤ zz_N G) : ∀ (p1 : Int32) (p2 : Int32) (m : zz_Mem), zz_Con zz_shM l G mX12_pieceOn 2 [.ref (zz_a G 0), .int p1, .int p2] zz_vJr (zz_mC m) (f_X12_pieceOn m p1 p2) m := by
  intro p1 p2 m
  refine zz_con (lv := [(0, .ref (zz_a G 0)), (1, .int p1), (2, .int p2)]) (by decide +kernel) (Nat.le_of_ble_eq_true rfl) rfl ?_
  unfold f_X12_pieceOn
  refine zs_aload_n dX12_pieceOn_0 rfl 0 rfl ?_
  refine zs_getR fl_X12_13 dX12_pieceOn_1 (shm_0 hN) rfl ?_
  refine zs_bipush (v := (24 : Int32)) dX12_pieceOn_4 cb_24 ?_
  refine zs_iload_n dX12_pieceOn_6 rfl 1 rfl ?_
  refine zs_iadd dX12_pieceOn_7 ?_
  refine zs_ialdG dX12_pieceOn_8 (shm_1 hN) ?_
  refine zs_iconst (v := (2 : Int32)) dX12_pieceOn_9 ci_2 ?_
  refine zs_icmp_ne (tgt := 81) dX12_pieceOn_10 (by decide) ?_ ?_
  · refine zs_ldc2 (v := (3600000 : Int64)) dX12_pieceOn_81 kc_X12_282 ?_
    refine zs_aload_n dX12_pieceOn_84 rfl 0 rfl ?_
    refine zs_iload_n dX12_pieceOn_85 rfl 1 rfl ?_
    refine zs_aload_n dX12_pieceOn_86 rfl 0 rfl ?_
    refine zs_getR fl_X12_39 dX12_pieceOn_87 (shm_0 hN) rfl ?_
    refine zs_iload_n dX12_pieceOn_90 rfl 1 rfl ?_
    refine zs_ialdG dX12_pieceOn_91 (shm_8 hN) ?_
    refine zs_aload_n dX12_pieceOn_92 rfl 0 rfl ?_
    refine zs_getR fl_X12_36 dX12_pieceOn_93 (shm_0 hN) rfl ?_
    refine zs_iload_n dX12_pieceOn_96 rfl 1 rfl ?_
    refine zs_ialdG dX12_pieceOn_97 (shm_7 hN) ?_
    refine zs_isub dX12_pieceOn_98 ?_
    refine zs_cV_jR (rest := [.long (3600000 : Int64)]) (k_X12_dueOf hN _ _ _) dX12_pieceOn_99 lv_X12_284 ok_X12_dueOf (zz_rcv_o (shm_0 hN) rfl) (Nat.le_of_ble_eq_true rfl) rfl rfl (Nat.le_of_ble_eq_true rfl) (fun r1 => ?_)
    refine zs_ladd dX12_pieceOn_102 ?_
    refine zs_aload_n dX12_pieceOn_103 rfl 0 rfl ?_
    refine zs_iload_n dX12_pieceOn_104 rfl 2 rfl ?_
    refine zs_aload_n dX12_pieceOn_105 rfl 0 rfl ?_
    refine zs_getR fl_X12_39 dX12_pieceOn_106 (shm_0 hN) rfl ?_
    refine zs_iload_n dX12_pieceOn_109 rfl 1 rfl ?_
    refine zs_ialdG dX12_pieceOn_110 (shm_8 hN) ?_
    refine zs_cV_iR (rest := [.long ((3600000 : Int64) + r1)]) (k_X12_weightAt hN _ _ _) dX12_pieceOn_111 lv_X12_415 ok_X12_weightAt (zz_rcv_o (shm_0 hN) rfl) (Nat.le_of_ble_eq_true rfl) rfl rfl (Nat.le_of_ble_eq_true rfl) (fun r2 => ?_)
    refine zs_i2l dX12_pieceOn_114 ?_
    refine zs_lmul dX12_pieceOn_115 ?_
    refine zs_letJ (fun y3 => ?_)
    refine zs_lstore_n [(3, .long y3), (0, .ref (zz_a G 0)), (1, .int p1), (2, .int p2)] dX12_pieceOn_116 rfl (Nat.le_of_ble_eq_true rfl) rfl ?_
    refine zs_aload_n dX12_pieceOn_117 rfl 1 rfl ?_
    refine zs_getR fl_X12_13 dX12_pieceOn_118 (shm_0 hN) rfl ?_
    refine zs_bipush (v := (24 : Int32)) dX12_pieceOn_121 cb_24 ?_
    refine zs_iload_n dX12_pieceOn_123 rfl 2 rfl ?_
    refine zs_iadd dX12_pieceOn_124 ?_
    refine zs_ialdG dX12_pieceOn_125 (shm_1 hN) ?_
    refine zs_iconst (v := (1 : Int32)) dX12_pieceOn_126 ci_1 ?_
    refine zs_icmp_ne (tgt := 151) dX12_pieceOn_127 (by decide) ?_ ?_
    · refine zs_lload_n dX12_pieceOn_151 rfl 0 rfl ?_
      exact zs_lret dX12_pieceOn_152 rfl rfl rfl
    · refine zs_lload_n dX12_pieceOn_130 rfl 0 rfl ?_
      refine zs_ldc2 (v := (3600000 : Int64)) dX12_pieceOn_131 kc_X12_282 ?_
      refine zs_aload_n dX12_pieceOn_134 rfl 1 rfl ?_
      refine zs_iload_n dX12_pieceOn_135 rfl 3 rfl ?_
      refine zs_aload_n dX12_pieceOn_136 rfl 1 rfl ?_
      refine zs_getR fl_X12_36 dX12_pieceOn_137 (shm_0 hN) rfl ?_
      refine zs_iload_n dX12_pieceOn_140 rfl 2 rfl ?_
      refine zs_ialdG dX12_pieceOn_141 (shm_7 hN) ?_
      refine zs_cV_iR (rest := [.long (3600000 : Int64), .long y3]) (k_X12_weightAt hN _ _ _) dX12_pieceOn_142 lv_X12_415 ok_X12_weightAt (zz_rcv_o (shm_0 hN) rfl) (Nat.le_of_ble_eq_true rfl) rfl rfl (Nat.le_of_ble_eq_true rfl) (fun r4 => ?_)
      refine zs_i2l dX12_pieceOn_145 ?_
      refine zs_lmul dX12_pieceOn_146 ?_
      refine zs_lsub dX12_pieceOn_147 ?_
      refine zs_goto (tgt := 152) dX12_pieceOn_148 (by decide) ?_
      exact zs_lret dX12_pieceOn_152 rfl rfl rfl
  · refine zs_ldc2 (v := (3600000 : Int64)) dX12_pieceOn_13 kc_X12_282 ?_
    refine zs_aload_n dX12_pieceOn_16 rfl 0 rfl ?_
    refine zs_iload_n dX12_pieceOn_17 rfl 2 rfl ?_
    refine zs_aload_n dX12_pieceOn_18 rfl 0 rfl ?_
    refine zs_getR fl_X12_39 dX12_pieceOn_19 (shm_0 hN) rfl ?_
    refine zs_iload_n dX12_pieceOn_22 rfl 1 rfl ?_
    refine zs_ialdG dX12_pieceOn_23 (shm_8 hN) ?_
    refine zs_cV_iR (rest := [.long (3600000 : Int64)]) (k_X12_weightAt hN _ _ _) dX12_pieceOn_24 lv_X12_415 ok_X12_weightAt (zz_rcv_o (shm_0 hN) rfl) (Nat.le_of_ble_eq_true rfl) rfl rfl (Nat.le_of_ble_eq_true rfl) (fun r5 => ?_)
    refine zs_i2l dX12_pieceOn_27 ?_
    refine zs_lmul dX12_pieceOn_28 ?_
    refine zs_letJ (fun y6 => ?_)
    refine zs_lstore_n [(3, .long y6), (0, .ref (zz_a G 0)), (1, .int p1), (2, .int p2)] dX12_pieceOn_29 rfl (Nat.le_of_ble_eq_true rfl) rfl ?_
    refine zs_iconst (v := (0 : Int32)) dX12_pieceOn_30 ci_0 ?_
    refine zs_istore [(5, .int (0 : Int32)), (3, .long y6), (0, .ref (zz_a G 0)), (1, .int p1), (2, .int p2)] dX12_pieceOn_31 (Nat.le_of_ble_eq_true rfl) rfl ?_
    refine zs_sub [2, 3, 4, 1, 0] rfl ?_
    exact t_X12_pieceOn_33 hN zz_fuel _ _ _ _
/-! X12_laysFlat: PillarDeskModel.laysFlat()V -/
theorem dX12_laysFlat_0 : decode cX12_laysFlat 0 = .ok (.aload_n 0, 1) := by decide +kernel
theorem dX12_laysFlat_1 : decode cX12_laysFlat 1 = .ok (.invokevirtual 312, 3) := by decide +kernel
theorem dX12_laysFlat_4 : decode cX12_laysFlat 4 = .ok (.iconst 0, 1) := by decide +kernel
theorem dX12_laysFlat_5 : decode cX12_laysFlat 5 = .ok (.istore_n 1, 1) := by decide +kernel
theorem dX12_laysFlat_6 : decode cX12_laysFlat 6 = .ok (.iload_n 1, 1) := by decide +kernel
theorem dX12_laysFlat_7 : decode cX12_laysFlat 7 = .ok (.aload_n 0, 1) := by decide +kernel
theorem dX12_laysFlat_8 : decode cX12_laysFlat 8 = .ok (.getfield 272, 3) := by decide +kernel
theorem dX12_laysFlat_11 : decode cX12_laysFlat 11 = .ok (.if_icmp .ge 28, 3) := by decide +kernel
theorem dX12_laysFlat_14 : decode cX12_laysFlat 14 = .ok (.aload_n 0, 1) := by decide +kernel
theorem dX12_laysFlat_15 : decode cX12_laysFlat 15 = .ok (.getfield 76, 3) := by decide +kernel
theorem dX12_laysFlat_18 : decode cX12_laysFlat 18 = .ok (.iload_n 1, 1) := by decide +kernel
theorem dX12_laysFlat_19 : decode cX12_laysFlat 19 = .ok (.aload_n 0, 1) := by decide +kernel
theorem dX12_laysFlat_20 : decode cX12_laysFlat 20 = .ok (.iload_n 1, 1) := by decide +kernel
theorem dX12_laysFlat_21 : decode cX12_laysFlat 21 = .ok (.invokevirtual 418, 3) := by decide +kernel
theorem dX12_laysFlat_24 : decode cX12_laysFlat 24 = .ok (.ldc2_w 282, 3) := by decide +kernel
theorem dX12_laysFlat_27 : decode cX12_laysFlat 27 = .ok (.lmul, 1) := by decide +kernel
theorem dX12_laysFlat_28 : decode cX12_laysFlat 28 = .ok (.ldc2_w 343, 3) := by decide +kernel
theorem dX12_laysFlat_31 : decode cX12_laysFlat 31 = .ok (.lmul, 1) := by decide +kernel
theorem dX12_laysFlat_32 : decode cX12_laysFlat 32 = .ok (.lastore, 1) := by decide +kernel
theorem dX12_laysFlat_33 : decode cX12_laysFlat 33 = .ok (.iinc 1 1, 3) := by decide +kernel
theorem dX12_laysFlat_36 : decode cX12_laysFlat 36 = .ok (.goto (-30), 3) := by decide +kernel
theorem dX12_laysFlat_39 : decode cX12_laysFlat 39 = .ok (.aload_n 0, 1) := by decide +kernel
theorem dX12_laysFlat_40 : decode cX12_laysFlat 40 = .ok (.getfield 272, 3) := by decide +kernel
theorem dX12_laysFlat_43 : decode cX12_laysFlat 43 = .ok (.iconst 1, 1) := by decide +kernel
theorem dX12_laysFlat_44 : decode cX12_laysFlat 44 = .ok (.isub, 1) := by decide +kernel
theorem dX12_laysFlat_45 : decode cX12_laysFlat 45 = .ok (.istore_n 1, 1) := by decide +kernel
theorem dX12_laysFlat_46 : decode cX12_laysFlat 46 = .ok (.iload_n 1, 1) := by decide +kernel
theorem dX12_laysFlat_47 : decode cX12_laysFlat 47 = .ok (.ifCond .le 92, 3) := by decide +kernel
theorem dX12_laysFlat_50 : decode cX12_laysFlat 50 = .ok (.aload_n 0, 1) := by decide +kernel
theorem dX12_laysFlat_51 : decode cX12_laysFlat 51 = .ok (.aload_n 0, 1) := by decide +kernel
theorem dX12_laysFlat_52 : decode cX12_laysFlat 52 = .ok (.getfield 60, 3) := by decide +kernel
theorem dX12_laysFlat_55 : decode cX12_laysFlat 55 = .ok (.iload_n 1, 1) := by decide +kernel
theorem dX12_laysFlat_56 : decode cX12_laysFlat 56 = .ok (.iaload, 1) := by decide +kernel
theorem dX12_laysFlat_57 : decode cX12_laysFlat 57 = .ok (.iload_n 1, 1) := by decide +kernel
theorem dX12_laysFlat_58 : decode cX12_laysFlat 58 = .ok (.invokevirtual 422, 3) := by decide +kernel
theorem dX12_laysFlat_61 : decode cX12_laysFlat 61 = .ok (.lstore_n 2, 1) := by decide +kernel
theorem dX12_laysFlat_62 : decode cX12_laysFlat 62 = .ok (.aload_n 0, 1) := by decide +kernel
theorem dX12_laysFlat_63 : decode cX12_laysFlat 63 = .ok (.getfield 72, 3) := by decide +kernel
theorem dX12_laysFlat_66 : decode cX12_laysFlat 66 = .ok (.iload_n 1, 1) := by decide +kernel
theorem dX12_laysFlat_67 : decode cX12_laysFlat 67 = .ok (.ldc2_w 425, 3) := by decide +kernel
theorem dX12_laysFlat_70 : decode cX12_laysFlat 70 = .ok (.aload_n 0, 1) := by decide +kernel
theorem dX12_laysFlat_71 : decode cX12_laysFlat 71 = .ok (.getfield 76, 3) := by decide +kernel
theorem dX12_laysFlat_74 : decode cX12_laysFlat 74 = .ok (.iload_n 1, 1) := by decide +kernel
theorem dX12_laysFlat_75 : decode cX12_laysFlat 75 = .ok (.laload, 1) := by decide +kernel
theorem dX12_laysFlat_76 : decode cX12_laysFlat 76 = .ok (.lmul, 1) := by decide +kernel
theorem dX12_laysFlat_77 : decode cX12_laysFlat 77 = .ok (.lload_n 2, 1) := by decide +kernel
theorem dX12_laysFlat_78 : decode cX12_laysFlat 78 = .ok (.ladd, 1) := by decide +kernel
theorem dX12_laysFlat_79 : decode cX12_laysFlat 79 = .ok (.ldc2_w 425, 3) := by decide +kernel
theorem dX12_laysFlat_82 : decode cX12_laysFlat 82 = .ok (.lload_n 2, 1) := by decide +kernel
theorem dX12_laysFlat_83 : decode cX12_laysFlat 83 = .ok (.lmul, 1) := by decide +kernel
theorem dX12_laysFlat_84 : decode cX12_laysFlat 84 = .ok (.invokestatic 278, 3) := by decide +kernel
theorem dX12_laysFlat_87 : decode cX12_laysFlat 87 = .ok (.lneg, 1) := by decide +kernel
theorem dX12_laysFlat_88 : decode cX12_laysFlat 88 = .ok (.lastore, 1) := by decide +kernel
theorem dX12_laysFlat_89 : decode cX12_laysFlat 89 = .ok (.iconst 0, 1) := by decide +kernel
theorem dX12_laysFlat_90 : decode cX12_laysFlat 90 = .ok (.istore 4, 2) := by decide +kernel
theorem dX12_laysFlat_92 : decode cX12_laysFlat 92 = .ok (.iload 4, 2) := by decide +kernel
theorem dX12_laysFlat_94 : decode cX12_laysFlat 94 = .ok (.iload_n 1, 1) := by decide +kernel
theorem dX12_laysFlat_95 : decode cX12_laysFlat 95 = .ok (.if_icmp .gt 38, 3) := by decide +kernel
theorem dX12_laysFlat_98 : decode cX12_laysFlat 98 = .ok (.aload_n 0, 1) := by decide +kernel
theorem dX12_laysFlat_99 : decode cX12_laysFlat 99 = .ok (.getfield 76, 3) := by decide +kernel
theorem dX12_laysFlat_102 : decode cX12_laysFlat 102 = .ok (.iload 4, 2) := by decide +kernel
theorem dX12_laysFlat_104 : decode cX12_laysFlat 104 = .ok (.dup2, 1) := by decide +kernel
theorem dX12_laysFlat_105 : decode cX12_laysFlat 105 = .ok (.laload, 1) := by decide +kernel
theorem dX12_laysFlat_106 : decode cX12_laysFlat 106 = .ok (.aload_n 0, 1) := by decide +kernel
theorem dX12_laysFlat_107 : decode cX12_laysFlat 107 = .ok (.getfield 72, 3) := by decide +kernel
theorem dX12_laysFlat_110 : decode cX12_laysFlat 110 = .ok (.iload_n 1, 1) := by decide +kernel
theorem dX12_laysFlat_111 : decode cX12_laysFlat 111 = .ok (.laload, 1) := by decide +kernel
theorem dX12_laysFlat_112 : decode cX12_laysFlat 112 = .ok (.aload_n 0, 1) := by decide +kernel
theorem dX12_laysFlat_113 : decode cX12_laysFlat 113 = .ok (.aload_n 0, 1) := by decide +kernel
theorem dX12_laysFlat_114 : decode cX12_laysFlat 114 = .ok (.getfield 60, 3) := by decide +kernel
theorem dX12_laysFlat_117 : decode cX12_laysFlat 117 = .ok (.iload_n 1, 1) := by decide +kernel
theorem dX12_laysFlat_118 : decode cX12_laysFlat 118 = .ok (.iaload, 1) := by decide +kernel
theorem dX12_laysFlat_119 : decode cX12_laysFlat 119 = .ok (.iload 4, 2) := by decide +kernel
theorem dX12_laysFlat_121 : decode cX12_laysFlat 121 = .ok (.invokevirtual 422, 3) := by decide +kernel
theorem dX12_laysFlat_124 : decode cX12_laysFlat 124 = .ok (.lmul, 1) := by decide +kernel
theorem dX12_laysFlat_125 : decode cX12_laysFlat 125 = .ok (.ladd, 1) := by decide +kernel
theorem dX12_laysFlat_126 : decode cX12_laysFlat 126 = .ok (.lastore, 1) := by decide +kernel
theorem dX12_laysFlat_127 : decode cX12_laysFlat 127 = .ok (.iinc 4 1, 3) := by decide +kernel
theorem dX12_laysFlat_130 : decode cX12_laysFlat 130 = .ok (.goto (-38), 3) := by decide +kernel
theorem dX12_laysFlat_133 : decode cX12_laysFlat 133 = .ok (.iinc 1 (-1), 3) := by decide +kernel
theorem dX12_laysFlat_136 : decode cX12_laysFlat 136 = .ok (.goto (-90), 3) := by decide +kernel
theorem dX12_laysFlat_139 : decode cX12_laysFlat 139 = .ok (.return_, 1) := by decide +kernel
def f_X12_laysFlat_92  (k46 : Int32 → zz_Mem → Option zz_Mem) : Nat → Int32 → Int32 → zz_Mem → Option zz_Mem
  | 0, _, _, _ => none
  | n + 1, v1, v4, m =>
  if v1 < v4 then (
  zz_letI (v1 + (-1 : Int32)) fun x1 =>
  k46 x1 m)
  else (
  zz_ix v4 9 <|
  zz_ix v1 9 <|
  zz_ix v1 9 <|
  zz_bndR (f_X12_pieceOn m (m.1 15 v1.toNatClampNeg) v4) fun r2 =>
  zz_ix v4 9 <| zz_letM (zz_setJ m 20 v4.toNatClampNeg ((m.2.1 20 v4.toNatClampNeg) + ((m.2.1 19 v1.toNatClampNeg) * r2))) fun m3 =>
  zz_letI (v4 + (1 : Int32)) fun x4 =>
  f_X12_laysFlat_92 k46 n v1 x4 m3)
theorem t_X12_laysFlat_92 {l : Launch} {G : zz_G} (hN : 26 ≤ zz_N G) {k46 : Int32 → zz_Mem → Option zz_Mem} (hk46 : ∀ (v1 : Int32) (m : zz_Mem), zz_Sim zz_shM l G mX12_laysFlat 6 zz_vV zz_mV (k46 v1 m) 46 [(0, .ref (zz_a G 0)), (1, .int v1)] [] m) : ∀ (n : Nat) (v1 : Int32) (v4 : Int32) (m : zz_Mem), zz_Sim zz_shM l G mX12_laysFlat 6 zz_vV zz_mV (f_X12_laysFlat_92 k46 n v1 v4 m) 92 [(0, .ref (zz_a G 0)), (1, .int v1), (4, .int v4)] [] m := by
  intro n
  induction n with
  | zero => intro _ _ _; exact zs_none
  | succ n ih =>
    intro v1 v4 m
    rw [f_X12_laysFlat_92]
    refine zs_iload dX12_laysFlat_92 2 rfl ?_
    refine zs_iload_n dX12_laysFlat_94 rfl 1 rfl ?_
    refine zs_icmp_gt (tgt := 133) dX12_laysFlat_95 (by decide) ?_ ?_
    · refine zs_iinc (fun y => [(1, .int y), (0, .ref (zz_a G 0)), (4, .int v4)]) dX12_laysFlat_133 1 rfl ci_m1 (Nat.le_of_ble_eq_true rfl) (fun _ => rfl) (fun x1 => ?_)
      refine zs_goto (tgt := 46) dX12_laysFlat_136 (by decide) ?_
      refine zs_sub [1, 0] rfl ?_
      exact hk46 _ _
    · refine zs_aload_n dX12_laysFlat_98 rfl 0 rfl ?_
      refine zs_getR fl_X12_76 dX12_laysFlat_99 (shm_0 hN) rfl ?_
      refine zs_iload dX12_laysFlat_102 2 rfl ?_
      refine zs_dup2_11 dX12_laysFlat_104 rfl rfl ?_
      refine zs_laldG dX12_laysFlat_105 (shm_20 hN) ?_
      refine zs_aload_n dX12_laysFlat_106 rfl 0 rfl ?_
      refine zs_getR fl_X12_72 dX12_laysFlat_107 (shm_0 hN) rfl ?_
      refine zs_iload_n dX12_laysFlat_110 rfl 1 rfl ?_
      refine zs_laldG dX12_laysFlat_111 (shm_19 hN) ?_
      refine zs_aload_n dX12_laysFlat_112 rfl 0 rfl ?_
      refine zs_aload_n dX12_laysFlat_113 rfl 0 rfl ?_
      refine zs_getR fl_X12_60 dX12_laysFlat_114 (shm_0 hN) rfl ?_
      refine zs_iload_n dX12_laysFlat_117 rfl 1 rfl ?_
      refine zs_ialdG dX12_laysFlat_118 (shm_15 hN) ?_
      refine zs_iload dX12_laysFlat_119 2 rfl ?_
      refine zs_cV_jR (rest := [.long (m.2.1 19 v1.toNatClampNeg), .long (m.2.1 20 v4.toNatClampNeg), .int v4, .ref (zz_a G 20)]) (k_X12_pieceOn hN _ _ _) dX12_laysFlat_121 lv_X12_422 ok_X12_pieceOn (zz_rcv_o (shm_0 hN) rfl) (Nat.le_of_ble_eq_true rfl) rfl rfl (Nat.le_of_ble_eq_true rfl) (fun r2 => ?_)
      refine zs_lmul dX12_laysFlat_124 ?_
      refine zs_ladd dX12_laysFlat_125 ?_
      refine zs_lastG dX12_laysFlat_126 (shm_20 hN) (fun m3 => ?_)
      refine zs_iinc (fun y => [(4, .int y), (0, .ref (zz_a G 0)), (1, .int v1)]) dX12_laysFlat_127 2 rfl ci_1 (Nat.le_of_ble_eq_true rfl) (fun _ => rfl) (fun x4 => ?_)
      refine zs_goto (tgt := 92) dX12_laysFlat_130 (by decide) ?_
      refine zs_sub [1, 2, 0] rfl ?_
      exact ih _ _ _
def f_X12_laysFlat_46   : Nat → Int32 → zz_Mem → Option zz_Mem
  | 0, _, _ => none
  | n + 1, v1, m =>
  if v1 ≤ 0 then (
  some m)
  else (
  zz_ix v1 9 <|
  zz_bndR (f_X12_pieceOn m (m.1 15 v1.toNatClampNeg) v1) fun r1 =>
  zz_ix v1 9 <|
  zz_bndR (f_X12_floorOf (((2 : Int64) * (m.2.1 20 v1.toNatClampNeg)) + r1) ((2 : Int64) * r1)) fun r2 =>
  zz_ix v1 9 <| zz_letM (zz_setJ m 19 v1.toNatClampNeg (-r2)) fun m3 =>
  f_X12_laysFlat_92 (f_X12_laysFlat_46 n) zz_fuel v1 (0 : Int32) m3)
theorem t_X12_laysFlat_46 {l : Launch} {G : zz_G} (hN : 26 ≤ zz_N G)  : ∀ (n : Nat) (v1 : Int32) (m : zz_Mem), zz_Sim zz_shM l G mX12_laysFlat 6 zz_vV zz_mV (f_X12_laysFlat_46 n v1 m) 46 [(0, .ref (zz_a G 0)), (1, .int v1)] [] m := by
  intro n
  induction n with
  | zero => intro _ _; exact zs_none
  | succ n ih =>
    intro v1 m
    rw [f_X12_laysFlat_46]
    refine zs_iload_n dX12_laysFlat_46 rfl 1 rfl ?_
    refine zs_if_le (tgt := 139) dX12_laysFlat_47 (by decide) ?_ ?_
    · exact zs_vret dX12_laysFlat_139 rfl rfl rfl
    · refine zs_aload_n dX12_laysFlat_50 rfl 0 rfl ?_
      refine zs_aload_n dX12_laysFlat_51 rfl 0 rfl ?_
      refine zs_getR fl_X12_60 dX12_laysFlat_52 (shm_0 hN) rfl ?_
      refine zs_iload_n dX12_laysFlat_55 rfl 1 rfl ?_
      refine zs_ialdG dX12_laysFlat_56 (shm_15 hN) ?_
      refine zs_iload_n dX12_laysFlat_57 rfl 1 rfl ?_
      refine zs_cV_jR (rest := []) (k_X12_pieceOn hN _ _ _) dX12_laysFlat_58 lv_X12_422 ok_X12_pieceOn (zz_rcv_o (shm_0 hN) rfl) (Nat.le_of_ble_eq_true rfl) rfl rfl (Nat.le_of_ble_eq_true rfl) (fun r1 => ?_)
      refine zs_lstore_n [(2, .long r1), (0, .ref (zz_a G 0)), (1, .int v1)] dX12_laysFlat_61 rfl (Nat.le_of_ble_eq_true rfl) rfl ?_
      refine zs_aload_n dX12_laysFlat_62 rfl 1 rfl ?_
      refine zs_getR fl_X12_72 dX12_laysFlat_63 (shm_0 hN) rfl ?_
      refine zs_iload_n dX12_laysFlat_66 rfl 2 rfl ?_
      refine zs_ldc2 (v := (2 : Int64)) dX12_laysFlat_67 kc_X12_425 ?_
      refine zs_aload_n dX12_laysFlat_70 rfl 1 rfl ?_
      refine zs_getR fl_X12_76 dX12_laysFlat_71 (shm_0 hN) rfl ?_
      refine zs_iload_n dX12_laysFlat_74 rfl 2 rfl ?_
      refine zs_laldG dX12_laysFlat_75 (shm_20 hN) ?_
      refine zs_lmul dX12_laysFlat_76 ?_
      refine zs_lload_n dX12_laysFlat_77 rfl 0 rfl ?_
      refine zs_ladd dX12_laysFlat_78 ?_
      refine zs_ldc2 (v := (2 : Int64)) dX12_laysFlat_79 kc_X12_425 ?_
      refine zs_lload_n dX12_laysFlat_82 rfl 0 rfl ?_
      refine zs_lmul dX12_laysFlat_83 ?_
      refine zs_cS_jR (rest := [.int v1, .ref (zz_a G 19)]) (k_X12_floorOf hN _ _ _) dX12_laysFlat_84 ls_X12_278 ok_X12_floorOf (Nat.le_of_ble_eq_true rfl) rfl rfl (Nat.le_of_ble_eq_true rfl) (fun r2 => ?_)
      refine zs_lneg dX12_laysFlat_87 ?_
      refine zs_lastG dX12_laysFlat_88 (shm_19 hN) (fun m3 => ?_)
      refine zs_iconst (v := (0 : Int32)) dX12_laysFlat_89 ci_0 ?_
      refine zs_istore [(4, .int (0 : Int32)), (2, .long r1), (0, .ref (zz_a G 0)), (1, .int v1)] dX12_laysFlat_90 (Nat.le_of_ble_eq_true rfl) rfl ?_
      refine zs_sub [2, 3, 0] rfl ?_
      exact t_X12_laysFlat_92 hN ih zz_fuel _ _ _
def f_X12_laysFlat_39   (m : zz_Mem) : Option zz_Mem :=
  zz_letI ((m.1 0 28) - (1 : Int32)) fun x1 =>
  f_X12_laysFlat_46 zz_fuel x1 m
theorem t_X12_laysFlat_39 {l : Launch} {G : zz_G} (hN : 26 ≤ zz_N G)  : ∀ (m : zz_Mem), zz_Sim zz_shM l G mX12_laysFlat 6 zz_vV zz_mV (f_X12_laysFlat_39 m) 39 [(0, .ref (zz_a G 0))] [] m := by
  intro m
  unfold f_X12_laysFlat_39
  refine zs_aload_n dX12_laysFlat_39 rfl 0 rfl ?_
  refine zs_getI fl_X12_272 dX12_laysFlat_40 (shm_0 hN) rfl ?_
  refine zs_iconst (v := (1 : Int32)) dX12_laysFlat_43 ci_1 ?_
  refine zs_isub dX12_laysFlat_44 ?_
  refine zs_letI (fun x1 => ?_)
  refine zs_istore_n [(1, .int x1), (0, .ref (zz_a G 0))] dX12_laysFlat_45 rfl (Nat.le_of_ble_eq_true rfl) rfl ?_
  refine zs_sub [1, 0] rfl ?_
  exact t_X12_laysFlat_46 hN zz_fuel _ _
def f_X12_laysFlat_6   : Nat → Int32 → zz_Mem → Option zz_Mem
  | 0, _, _ => none
  | n + 1, v1, m =>
  if (m.1 0 28) ≤ v1 then (
  f_X12_laysFlat_39 m)
  else (
  zz_bndR (f_X12_hangOf m v1) fun r1 =>
  zz_ix v1 9 <| zz_letM (zz_setJ m 20 v1.toNatClampNeg ((r1 * (3600000 : Int64)) * (1000 : Int64))) fun m2 =>
  zz_letI (v1 + (1 : Int32)) fun x3 =>
  f_X12_laysFlat_6 n x3 m2)
theorem t_X12_laysFlat_6 {l : Launch} {G : zz_G} (hN : 26 ≤ zz_N G)  : ∀ (n : Nat) (v1 : Int32) (m : zz_Mem), zz_Sim zz_shM l G mX12_laysFlat 6 zz_vV zz_mV (f_X12_laysFlat_6 n v1 m) 6 [(0, .ref (zz_a G 0)), (1, .int v1)] [] m := by
  intro n
  induction n with
  | zero => intro _ _; exact zs_none
  | succ n ih =>
    intro v1 m
    rw [f_X12_laysFlat_6]
    refine zs_iload_n dX12_laysFlat_6 rfl 1 rfl ?_
    refine zs_aload_n dX12_laysFlat_7 rfl 0 rfl ?_
    refine zs_getI fl_X12_272 dX12_laysFlat_8 (shm_0 hN) rfl ?_
    refine zs_icmp_ge (tgt := 39) dX12_laysFlat_11 (by decide) ?_ ?_
    · refine zs_sub [0] rfl ?_
      exact t_X12_laysFlat_39 hN _
    · refine zs_aload_n dX12_laysFlat_14 rfl 0 rfl ?_
      refine zs_getR fl_X12_76 dX12_laysFlat_15 (shm_0 hN) rfl ?_
      refine zs_iload_n dX12_laysFlat_18 rfl 1 rfl ?_
      refine zs_aload_n dX12_laysFlat_19 rfl 0 rfl ?_
      refine zs_iload_n dX12_laysFlat_20 rfl 1 rfl ?_
      refine zs_cV_jR (rest := [.int v1, .ref (zz_a G 20)]) (k_X12_hangOf hN _ _) dX12_laysFlat_21 lv_X12_418 ok_X12_hangOf (zz_rcv_o (shm_0 hN) rfl) (Nat.le_of_ble_eq_true rfl) rfl rfl (Nat.le_of_ble_eq_true rfl) (fun r1 => ?_)
      refine zs_ldc2 (v := (3600000 : Int64)) dX12_laysFlat_24 kc_X12_282 ?_
      refine zs_lmul dX12_laysFlat_27 ?_
      refine zs_ldc2 (v := (1000 : Int64)) dX12_laysFlat_28 kc_X12_343 ?_
      refine zs_lmul dX12_laysFlat_31 ?_
      refine zs_lastG dX12_laysFlat_32 (shm_20 hN) (fun m2 => ?_)
      refine zs_iinc (fun y => [(1, .int y), (0, .ref (zz_a G 0))]) dX12_laysFlat_33 1 rfl ci_1 (Nat.le_of_ble_eq_true rfl) (fun _ => rfl) (fun x3 => ?_)
      refine zs_goto (tgt := 6) dX12_laysFlat_36 (by decide) ?_
      refine zs_sub [1, 0] rfl ?_
      exact ih _ _
def f_X12_laysFlat   (m : zz_Mem) : Option zz_Mem :=
  zz_bndR (f_X12_laysCurve m) fun m1 =>
  f_X12_laysFlat_6 zz_fuel (0 : Int32) m1
theorem k_X12_laysFlat {l : Launch} {G : zz_G} (hN : 26 ≤ zz_N G) : ∀ (m : zz_Mem), zz_Con zz_shM l G mX12_laysFlat 6 [.ref (zz_a G 0)] zz_vV zz_mV (f_X12_laysFlat m) m := by
  intro m
  refine zz_con (lv := [(0, .ref (zz_a G 0))]) (by decide +kernel) (Nat.le_of_ble_eq_true rfl) rfl ?_
  unfold f_X12_laysFlat
  refine zs_aload_n dX12_laysFlat_0 rfl 0 rfl ?_
  refine zs_cV_vW (rest := []) (k_X12_laysCurve hN  _) dX12_laysFlat_1 lv_X12_312 ok_X12_laysCurve (zz_rcv_o (shm_0 hN) rfl) (Nat.le_of_ble_eq_true rfl) rfl rfl (Nat.le_of_ble_eq_true rfl) (fun m1 => ?_)
  refine zs_iconst (v := (0 : Int32)) dX12_laysFlat_4 ci_0 ?_
  refine zs_istore_n [(1, .int (0 : Int32)), (0, .ref (zz_a G 0))] dX12_laysFlat_5 rfl (Nat.le_of_ble_eq_true rfl) rfl ?_
  refine zs_sub [1, 0] rfl ?_
  exact t_X12_laysFlat_6 hN zz_fuel _ _
/-! X12_hang: PillarDeskModel.hang(I)J -/
theorem dX12_hang_0 : decode cX12_hang 0 = .ok (.aload_n 0, 1) := by decide +kernel
theorem dX12_hang_1 : decode cX12_hang 1 = .ok (.iconst 0, 1) := by decide +kernel
theorem dX12_hang_2 : decode cX12_hang 2 = .ok (.putfield 1, 3) := by decide +kernel
theorem dX12_hang_5 : decode cX12_hang 5 = .ok (.aload_n 0, 1) := by decide +kernel
theorem dX12_hang_6 : decode cX12_hang 6 = .ok (.invokevirtual 312, 3) := by decide +kernel
theorem dX12_hang_9 : decode cX12_hang 9 = .ok (.aload_n 0, 1) := by decide +kernel
theorem dX12_hang_10 : decode cX12_hang 10 = .ok (.iload_n 1, 1) := by decide +kernel
theorem dX12_hang_11 : decode cX12_hang 11 = .ok (.invokevirtual 389, 3) := by decide +kernel
theorem dX12_hang_14 : decode cX12_hang 14 = .ok (.ifCond .eq 11, 3) := by decide +kernel
theorem dX12_hang_17 : decode cX12_hang 17 = .ok (.aload_n 0, 1) := by decide +kernel
theorem dX12_hang_18 : decode cX12_hang 18 = .ok (.iload_n 1, 1) := by decide +kernel
theorem dX12_hang_19 : decode cX12_hang 19 = .ok (.invokevirtual 418, 3) := by decide +kernel
theorem dX12_hang_22 : decode cX12_hang 22 = .ok (.goto 6, 3) := by decide +kernel
theorem dX12_hang_25 : decode cX12_hang 25 = .ok (.ldc2_w 318, 3) := by decide +kernel
theorem dX12_hang_28 : decode cX12_hang 28 = .ok (.lreturn, 1) := by decide +kernel
def f_X12_hang  (p1 : Int32) (m : zz_Mem) : Option (Int64 × zz_Mem) :=
  zz_letM (zz_setI m 0 0 (0 : Int32)) fun m1 =>
  zz_bndR (f_X12_laysCurve m1) fun m2 =>
  zz_bndR (f_X12_isPillar m2 p1) fun r3 =>
  if r3 = 0 then (
  some ((-9000000000000000002 : Int64), m2))
  else (
  zz_bndR (f_X12_hangOf m2 p1) fun r4 =>
  some (r4, m2))
theorem k_X12_hang {l : Launch} {G : zz_G} (hN : 26 ≤ zz_N G) : ∀ (p1 : Int32) (m : zz_Mem), zz_Con zz_shM l G mX12_hang 6 [.ref (zz_a G 0), .int p1] zz_vJ zz_m2 (f_X12_hang p1 m) m := by
  intro p1 m
  refine zz_con (lv := [(0, .ref (zz_a G 0)), (1, .int p1)]) (by decide +kernel) (Nat.le_of_ble_eq_true rfl) rfl ?_
  unfold f_X12_hang
  refine zs_aload_n dX12_hang_0 rfl 0 rfl ?_
  refine zs_iconst (v := (0 : Int32)) dX12_hang_1 ci_0 ?_
  refine zs_putI fl_X12_1 dX12_hang_2 (shm_0 hN) rfl ⟨rfl, rfl⟩ (fun m1 => ?_)
  refine zs_aload_n dX12_hang_5 rfl 0 rfl ?_
  refine zs_cV_vW (rest := []) (k_X12_laysCurve hN  _) dX12_hang_6 lv_X12_312 ok_X12_laysCurve (zz_rcv_o (shm_0 hN) rfl) (Nat.le_of_ble_eq_true rfl) rfl rfl (Nat.le_of_ble_eq_true rfl) (fun m2 => ?_)
  refine zs_aload_n dX12_hang_9 rfl 0 rfl ?_
  refine zs_iload_n dX12_hang_10 rfl 1 rfl ?_
  refine zs_cV_iR (rest := []) (k_X12_isPillar hN _ _) dX12_hang_11 lv_X12_389 ok_X12_isPillar (zz_rcv_o (shm_0 hN) rfl) (Nat.le_of_ble_eq_true rfl) rfl rfl (Nat.le_of_ble_eq_true rfl) (fun r3 => ?_)
  refine zs_if_eq (tgt := 25) dX12_hang_14 (by decide) ?_ ?_
  · refine zs_ldc2 (v := (-9000000000000000002 : Int64)) dX12_hang_25 kc_X12_318 ?_
    exact zs_lret dX12_hang_28 rfl rfl rfl
  · refine zs_aload_n dX12_hang_17 rfl 0 rfl ?_
    refine zs_iload_n dX12_hang_18 rfl 1 rfl ?_
    refine zs_cV_jR (rest := []) (k_X12_hangOf hN _ _) dX12_hang_19 lv_X12_418 ok_X12_hangOf (zz_rcv_o (shm_0 hN) rfl) (Nat.le_of_ble_eq_true rfl) rfl rfl (Nat.le_of_ble_eq_true rfl) (fun r4 => ?_)
    refine zs_goto (tgt := 28) dX12_hang_22 (by decide) ?_
    exact zs_lret dX12_hang_28 rfl rfl rfl
/-! X12_flat: PillarDeskModel.flat(I)J -/
theorem dX12_flat_0 : decode cX12_flat 0 = .ok (.aload_n 0, 1) := by decide +kernel
theorem dX12_flat_1 : decode cX12_flat 1 = .ok (.iconst 0, 1) := by decide +kernel
theorem dX12_flat_2 : decode cX12_flat 2 = .ok (.putfield 1, 3) := by decide +kernel
theorem dX12_flat_5 : decode cX12_flat 5 = .ok (.aload_n 0, 1) := by decide +kernel
theorem dX12_flat_6 : decode cX12_flat 6 = .ok (.invokevirtual 427, 3) := by decide +kernel
theorem dX12_flat_9 : decode cX12_flat 9 = .ok (.iload_n 1, 1) := by decide +kernel
theorem dX12_flat_10 : decode cX12_flat 10 = .ok (.ifCond .eq 20, 3) := by decide +kernel
theorem dX12_flat_13 : decode cX12_flat 13 = .ok (.aload_n 0, 1) := by decide +kernel
theorem dX12_flat_14 : decode cX12_flat 14 = .ok (.iload_n 1, 1) := by decide +kernel
theorem dX12_flat_15 : decode cX12_flat 15 = .ok (.invokevirtual 389, 3) := by decide +kernel
theorem dX12_flat_18 : decode cX12_flat 18 = .ok (.ifCond .eq 12, 3) := by decide +kernel
theorem dX12_flat_21 : decode cX12_flat 21 = .ok (.aload_n 0, 1) := by decide +kernel
theorem dX12_flat_22 : decode cX12_flat 22 = .ok (.getfield 72, 3) := by decide +kernel
theorem dX12_flat_25 : decode cX12_flat 25 = .ok (.iload_n 1, 1) := by decide +kernel
theorem dX12_flat_26 : decode cX12_flat 26 = .ok (.laload, 1) := by decide +kernel
theorem dX12_flat_27 : decode cX12_flat 27 = .ok (.goto 6, 3) := by decide +kernel
theorem dX12_flat_30 : decode cX12_flat 30 = .ok (.ldc2_w 318, 3) := by decide +kernel
theorem dX12_flat_33 : decode cX12_flat 33 = .ok (.lreturn, 1) := by decide +kernel
def f_X12_flat  (p1 : Int32) (m : zz_Mem) : Option (Int64 × zz_Mem) :=
  zz_letM (zz_setI m 0 0 (0 : Int32)) fun m1 =>
  zz_bndR (f_X12_laysFlat m1) fun m2 =>
  if p1 = 0 then (
  some ((-9000000000000000002 : Int64), m2))
  else (
  zz_bndR (f_X12_isPillar m2 p1) fun r3 =>
  if r3 = 0 then (
  some ((-9000000000000000002 : Int64), m2))
  else (
  zz_ix p1 9 <|
  some (m2.2.1 19 p1.toNatClampNeg, m2)))
theorem k_X12_flat {l : Launch} {G : zz_G} (hN : 26 ≤ zz_N G) : ∀ (p1 : Int32) (m : zz_Mem), zz_Con zz_shM l G mX12_flat 7 [.ref (zz_a G 0), .int p1] zz_vJ zz_m2 (f_X12_flat p1 m) m := by
  intro p1 m
  refine zz_con (lv := [(0, .ref (zz_a G 0)), (1, .int p1)]) (by decide +kernel) (Nat.le_of_ble_eq_true rfl) rfl ?_
  unfold f_X12_flat
  refine zs_aload_n dX12_flat_0 rfl 0 rfl ?_
  refine zs_iconst (v := (0 : Int32)) dX12_flat_1 ci_0 ?_
  refine zs_putI fl_X12_1 dX12_flat_2 (shm_0 hN) rfl ⟨rfl, rfl⟩ (fun m1 => ?_)
  refine zs_aload_n dX12_flat_5 rfl 0 rfl ?_
  refine zs_cV_vW (rest := []) (k_X12_laysFlat hN  _) dX12_flat_6 lv_X12_427 ok_X12_laysFlat (zz_rcv_o (shm_0 hN) rfl) (Nat.le_of_ble_eq_true rfl) rfl rfl (Nat.le_of_ble_eq_true rfl) (fun m2 => ?_)
  refine zs_iload_n dX12_flat_9 rfl 1 rfl ?_
  refine zs_if_eq (tgt := 30) dX12_flat_10 (by decide) ?_ ?_
  · refine zs_ldc2 (v := (-9000000000000000002 : Int64)) dX12_flat_30 kc_X12_318 ?_
    exact zs_lret dX12_flat_33 rfl rfl rfl
  · refine zs_aload_n dX12_flat_13 rfl 0 rfl ?_
    refine zs_iload_n dX12_flat_14 rfl 1 rfl ?_
    refine zs_cV_iR (rest := []) (k_X12_isPillar hN _ _) dX12_flat_15 lv_X12_389 ok_X12_isPillar (zz_rcv_o (shm_0 hN) rfl) (Nat.le_of_ble_eq_true rfl) rfl rfl (Nat.le_of_ble_eq_true rfl) (fun r3 => ?_)
    refine zs_if_eq (tgt := 30) dX12_flat_18 (by decide) ?_ ?_
    · refine zs_ldc2 (v := (-9000000000000000002 : Int64)) dX12_flat_30 kc_X12_318 ?_
      exact zs_lret dX12_flat_33 rfl rfl rfl
    · refine zs_aload_n dX12_flat_21 rfl 0 rfl ?_
      refine zs_getR fl_X12_72 dX12_flat_22 (shm_0 hN) rfl ?_
      refine zs_iload_n dX12_flat_25 rfl 1 rfl ?_
      refine zs_laldG dX12_flat_26 (shm_19 hN) ?_
      refine zs_goto (tgt := 33) dX12_flat_27 (by decide) ?_
      exact zs_lret dX12_flat_33 rfl rfl rfl
/-! X12_left: PillarDeskModel.left(I)J -/
theorem dX12_left_0 : decode cX12_left 0 = .ok (.aload_n 0, 1) := by decide +kernel
theorem dX12_left_1 : decode cX12_left 1 = .ok (.iconst 0, 1) := by decide +kernel
theorem dX12_left_2 : decode cX12_left 2 = .ok (.putfield 1, 3) := by decide +kernel
theorem dX12_left_5 : decode cX12_left 5 = .ok (.aload_n 0, 1) := by decide +kernel
theorem dX12_left_6 : decode cX12_left 6 = .ok (.invokevirtual 427, 3) := by decide +kernel
theorem dX12_left_9 : decode cX12_left 9 = .ok (.iload_n 1, 1) := by decide +kernel
theorem dX12_left_10 : decode cX12_left 10 = .ok (.ifCond .eq 20, 3) := by decide +kernel
theorem dX12_left_13 : decode cX12_left 13 = .ok (.aload_n 0, 1) := by decide +kernel
theorem dX12_left_14 : decode cX12_left 14 = .ok (.iload_n 1, 1) := by decide +kernel
theorem dX12_left_15 : decode cX12_left 15 = .ok (.invokevirtual 389, 3) := by decide +kernel
theorem dX12_left_18 : decode cX12_left 18 = .ok (.ifCond .eq 12, 3) := by decide +kernel
theorem dX12_left_21 : decode cX12_left 21 = .ok (.aload_n 0, 1) := by decide +kernel
theorem dX12_left_22 : decode cX12_left 22 = .ok (.getfield 76, 3) := by decide +kernel
theorem dX12_left_25 : decode cX12_left 25 = .ok (.iload_n 1, 1) := by decide +kernel
theorem dX12_left_26 : decode cX12_left 26 = .ok (.laload, 1) := by decide +kernel
theorem dX12_left_27 : decode cX12_left 27 = .ok (.goto 6, 3) := by decide +kernel
theorem dX12_left_30 : decode cX12_left 30 = .ok (.ldc2_w 318, 3) := by decide +kernel
theorem dX12_left_33 : decode cX12_left 33 = .ok (.lreturn, 1) := by decide +kernel
def f_X12_left  (p1 : Int32) (m : zz_Mem) : Option (Int64 × zz_Mem) :=
  zz_letM (zz_setI m 0 0 (0 : Int32)) fun m1 =>
  zz_bndR (f_X12_laysFlat m1) fun m2 =>
  if p1 = 0 then (
  some ((-9000000000000000002 : Int64), m2))
  else (
  zz_bndR (f_X12_isPillar m2 p1) fun r3 =>
  if r3 = 0 then (
  some ((-9000000000000000002 : Int64), m2))
  else (
  zz_ix p1 9 <|
  some (m2.2.1 20 p1.toNatClampNeg, m2)))
theorem k_X12_left {l : Launch} {G : zz_G} (hN : 26 ≤ zz_N G) : ∀ (p1 : Int32) (m : zz_Mem), zz_Con zz_shM l G mX12_left 7 [.ref (zz_a G 0), .int p1] zz_vJ zz_m2 (f_X12_left p1 m) m := by
  intro p1 m
  refine zz_con (lv := [(0, .ref (zz_a G 0)), (1, .int p1)]) (by decide +kernel) (Nat.le_of_ble_eq_true rfl) rfl ?_
  unfold f_X12_left
  refine zs_aload_n dX12_left_0 rfl 0 rfl ?_
  refine zs_iconst (v := (0 : Int32)) dX12_left_1 ci_0 ?_
  refine zs_putI fl_X12_1 dX12_left_2 (shm_0 hN) rfl ⟨rfl, rfl⟩ (fun m1 => ?_)
  refine zs_aload_n dX12_left_5 rfl 0 rfl ?_
  refine zs_cV_vW (rest := []) (k_X12_laysFlat hN  _) dX12_left_6 lv_X12_427 ok_X12_laysFlat (zz_rcv_o (shm_0 hN) rfl) (Nat.le_of_ble_eq_true rfl) rfl rfl (Nat.le_of_ble_eq_true rfl) (fun m2 => ?_)
  refine zs_iload_n dX12_left_9 rfl 1 rfl ?_
  refine zs_if_eq (tgt := 30) dX12_left_10 (by decide) ?_ ?_
  · refine zs_ldc2 (v := (-9000000000000000002 : Int64)) dX12_left_30 kc_X12_318 ?_
    exact zs_lret dX12_left_33 rfl rfl rfl
  · refine zs_aload_n dX12_left_13 rfl 0 rfl ?_
    refine zs_iload_n dX12_left_14 rfl 1 rfl ?_
    refine zs_cV_iR (rest := []) (k_X12_isPillar hN _ _) dX12_left_15 lv_X12_389 ok_X12_isPillar (zz_rcv_o (shm_0 hN) rfl) (Nat.le_of_ble_eq_true rfl) rfl rfl (Nat.le_of_ble_eq_true rfl) (fun r3 => ?_)
    refine zs_if_eq (tgt := 30) dX12_left_18 (by decide) ?_ ?_
    · refine zs_ldc2 (v := (-9000000000000000002 : Int64)) dX12_left_30 kc_X12_318 ?_
      exact zs_lret dX12_left_33 rfl rfl rfl
    · refine zs_aload_n dX12_left_21 rfl 0 rfl ?_
      refine zs_getR fl_X12_76 dX12_left_22 (shm_0 hN) rfl ?_
      refine zs_iload_n dX12_left_25 rfl 1 rfl ?_
      refine zs_laldG dX12_left_26 (shm_20 hN) ?_
      refine zs_goto (tgt := 33) dX12_left_27 (by decide) ?_
      exact zs_lret dX12_left_33 rfl rfl rfl
/-! X12_noTold: PillarDeskModel.noTold(I)I -/
theorem dX12_noTold_0 : decode cX12_noTold 0 = .ok (.aload_n 0, 1) := by decide +kernel
theorem dX12_noTold_1 : decode cX12_noTold 1 = .ok (.iload_n 1, 1) := by decide +kernel
theorem dX12_noTold_2 : decode cX12_noTold 2 = .ok (.invokevirtual 365, 3) := by decide +kernel
theorem dX12_noTold_5 : decode cX12_noTold 5 = .ok (.istore_n 2, 1) := by decide +kernel
theorem dX12_noTold_6 : decode cX12_noTold 6 = .ok (.iload_n 2, 1) := by decide +kernel
theorem dX12_noTold_7 : decode cX12_noTold 7 = .ok (.ifCond .eq 5, 3) := by decide +kernel
theorem dX12_noTold_10 : decode cX12_noTold 10 = .ok (.iload_n 2, 1) := by decide +kernel
theorem dX12_noTold_11 : decode cX12_noTold 11 = .ok (.ireturn, 1) := by decide +kernel
theorem dX12_noTold_12 : decode cX12_noTold 12 = .ok (.aload_n 0, 1) := by decide +kernel
theorem dX12_noTold_13 : decode cX12_noTold 13 = .ok (.getfield 88, 3) := by decide +kernel
theorem dX12_noTold_16 : decode cX12_noTold 16 = .ok (.iload_n 1, 1) := by decide +kernel
theorem dX12_noTold_17 : decode cX12_noTold 17 = .ok (.iaload, 1) := by decide +kernel
theorem dX12_noTold_18 : decode cX12_noTold 18 = .ok (.i2l, 1) := by decide +kernel
theorem dX12_noTold_19 : decode cX12_noTold 19 = .ok (.lconst 1, 1) := by decide +kernel
theorem dX12_noTold_20 : decode cX12_noTold 20 = .ok (.ldc2_w 430, 3) := by decide +kernel
theorem dX12_noTold_23 : decode cX12_noTold 23 = .ok (.invokestatic 163, 3) := by decide +kernel
theorem dX12_noTold_26 : decode cX12_noTold 26 = .ok (.ifCond .ne 6, 3) := by decide +kernel
theorem dX12_noTold_29 : decode cX12_noTold 29 = .ok (.bipush (-4), 2) := by decide +kernel
theorem dX12_noTold_31 : decode cX12_noTold 31 = .ok (.ireturn, 1) := by decide +kernel
theorem dX12_noTold_32 : decode cX12_noTold 32 = .ok (.iconst 0, 1) := by decide +kernel
theorem dX12_noTold_33 : decode cX12_noTold 33 = .ok (.istore_n 3, 1) := by decide +kernel
theorem dX12_noTold_34 : decode cX12_noTold 34 = .ok (.iload_n 3, 1) := by decide +kernel
theorem dX12_noTold_35 : decode cX12_noTold 35 = .ok (.aload_n 0, 1) := by decide +kernel
theorem dX12_noTold_36 : decode cX12_noTold 36 = .ok (.getfield 88, 3) := by decide +kernel
theorem dX12_noTold_39 : decode cX12_noTold 39 = .ok (.iload_n 1, 1) := by decide +kernel
theorem dX12_noTold_40 : decode cX12_noTold 40 = .ok (.iaload, 1) := by decide +kernel
theorem dX12_noTold_41 : decode cX12_noTold 41 = .ok (.if_icmp .ge 33, 3) := by decide +kernel
theorem dX12_noTold_44 : decode cX12_noTold 44 = .ok (.aload_n 0, 1) := by decide +kernel
theorem dX12_noTold_45 : decode cX12_noTold 45 = .ok (.getfield 91, 3) := by decide +kernel
theorem dX12_noTold_48 : decode cX12_noTold 48 = .ok (.bipush 40, 2) := by decide +kernel
theorem dX12_noTold_50 : decode cX12_noTold 50 = .ok (.iload_n 1, 1) := by decide +kernel
theorem dX12_noTold_51 : decode cX12_noTold 51 = .ok (.imul, 1) := by decide +kernel
theorem dX12_noTold_52 : decode cX12_noTold 52 = .ok (.iload_n 3, 1) := by decide +kernel
theorem dX12_noTold_53 : decode cX12_noTold 53 = .ok (.iadd, 1) := by decide +kernel
theorem dX12_noTold_54 : decode cX12_noTold 54 = .ok (.laload, 1) := by decide +kernel
theorem dX12_noTold_55 : decode cX12_noTold 55 = .ok (.lconst 0, 1) := by decide +kernel
theorem dX12_noTold_56 : decode cX12_noTold 56 = .ok (.ldc2_w 432, 3) := by decide +kernel
theorem dX12_noTold_59 : decode cX12_noTold 59 = .ok (.invokestatic 163, 3) := by decide +kernel
theorem dX12_noTold_62 : decode cX12_noTold 62 = .ok (.ifCond .ne 6, 3) := by decide +kernel
theorem dX12_noTold_65 : decode cX12_noTold 65 = .ok (.bipush (-3), 2) := by decide +kernel
theorem dX12_noTold_67 : decode cX12_noTold 67 = .ok (.ireturn, 1) := by decide +kernel
theorem dX12_noTold_68 : decode cX12_noTold 68 = .ok (.iinc 3 1, 3) := by decide +kernel
theorem dX12_noTold_71 : decode cX12_noTold 71 = .ok (.goto (-37), 3) := by decide +kernel
theorem dX12_noTold_74 : decode cX12_noTold 74 = .ok (.iconst 0, 1) := by decide +kernel
theorem dX12_noTold_75 : decode cX12_noTold 75 = .ok (.ireturn, 1) := by decide +kernel
def f_X12_noTold_34 (m : zz_Mem)  : Nat → Int32 → Int32 → Option Int32
  | 0, _, _ => none
  | n + 1, v1, v3 =>
  zz_ix v1 4 <|
  if (m.1 24 v1.toNatClampNeg) ≤ v3 then (
  some (0 : Int32))
  else (
  zz_ix (((40 : Int32) * v1) + v3) 160 <|
  zz_bndR (f_X12_within (m.2.1 25 (((40 : Int32) * v1) + v3).toNatClampNeg) (0 : Int64) (999999999999 : Int64)) fun r1 =>
  if r1 = 0 then (
  some (-3 : Int32))
  else (
  zz_letI (v3 + (1 : Int32)) fun x2 =>
  f_X12_noTold_34 m n v1 x2))
theorem t_X12_noTold_34 {l : Launch} {G : zz_G} (hN : 26 ≤ zz_N G) {m : zz_Mem}  : ∀ (n : Nat) (v1 : Int32) (v3 : Int32), zz_Sim zz_shM l G mX12_noTold 2 zz_vIr (zz_mC m) (f_X12_noTold_34 m n v1 v3) 34 [(0, .ref (zz_a G 0)), (1, .int v1), (3, .int v3)] [] m := by
  intro n
  induction n with
  | zero => intro _ _; exact zs_none
  | succ n ih =>
    intro v1 v3
    rw [f_X12_noTold_34]
    refine zs_iload_n dX12_noTold_34 rfl 2 rfl ?_
    refine zs_aload_n dX12_noTold_35 rfl 0 rfl ?_
    refine zs_getR fl_X12_88 dX12_noTold_36 (shm_0 hN) rfl ?_
    refine zs_iload_n dX12_noTold_39 rfl 1 rfl ?_
    refine zs_ialdG dX12_noTold_40 (shm_24 hN) ?_
    refine zs_icmp_ge (tgt := 74) dX12_noTold_41 (by decide) ?_ ?_
    · refine zs_iconst (v := (0 : Int32)) dX12_noTold_74 ci_0 ?_
      exact zs_iret dX12_noTold_75 rfl rfl rfl
    · refine zs_aload_n dX12_noTold_44 rfl 0 rfl ?_
      refine zs_getR fl_X12_91 dX12_noTold_45 (shm_0 hN) rfl ?_
      refine zs_bipush (v := (40 : Int32)) dX12_noTold_48 cb_40 ?_
      refine zs_iload_n dX12_noTold_50 rfl 1 rfl ?_
      refine zs_imul dX12_noTold_51 ?_
      refine zs_iload_n dX12_noTold_52 rfl 2 rfl ?_
      refine zs_iadd dX12_noTold_53 ?_
      refine zs_laldG dX12_noTold_54 (shm_25 hN) ?_
      refine zs_lconst (v := (0 : Int64)) dX12_noTold_55 rfl ?_
      refine zs_ldc2 (v := (999999999999 : Int64)) dX12_noTold_56 kc_X12_432 ?_
      refine zs_cS_iR (rest := []) (k_X12_within hN _ _ _ _) dX12_noTold_59 ls_X12_163 ok_X12_within (Nat.le_of_ble_eq_true rfl) rfl rfl (Nat.le_of_ble_eq_true rfl) (fun r1 => ?_)
      refine zs_if_ne (tgt := 68) dX12_noTold_62 (by decide) ?_ ?_
      · refine zs_iinc (fun y => [(3, .int y), (0, .ref (zz_a G 0)), (1, .int v1)]) dX12_noTold_68 2 rfl ci_1 (Nat.le_of_ble_eq_true rfl) (fun _ => rfl) (fun x2 => ?_)
        refine zs_goto (tgt := 34) dX12_noTold_71 (by decide) ?_
        refine zs_sub [1, 2, 0] rfl ?_
        exact ih _ _
      · refine zs_bipush (v := (-3 : Int32)) dX12_noTold_65 cb_m3 ?_
        exact zs_iret dX12_noTold_67 rfl rfl rfl
def f_X12_noTold (m : zz_Mem) (p1 : Int32) : Option Int32 :=
  zz_bndR (f_X12_noTray m p1) fun r1 =>
  if r1 = 0 then (
  zz_ix p1 4 <|
  zz_bndR (f_X12_within ((m.1 24 p1.toNatClampNeg).toInt64) (1 : Int64) (8 : Int64)) fun r2 =>
  if r2 = 0 then (
  some (-4 : Int32))
  else (
  f_X12_noTold_34 m zz_fuel p1 (0 : Int32)))
  else (
  some r1)
theorem k_X12_noTold {l : Launch} {G : zz_G} (hN : 26 ≤ zz_N G) : ∀ (p1 : Int32) (m : zz_Mem), zz_Con zz_shM l G mX12_noTold 2 [.ref (zz_a G 0), .int p1] zz_vIr (zz_mC m) (f_X12_noTold m p1) m := by
  intro p1 m
  refine zz_con (lv := [(0, .ref (zz_a G 0)), (1, .int p1)]) (by decide +kernel) (Nat.le_of_ble_eq_true rfl) rfl ?_
  unfold f_X12_noTold
  refine zs_aload_n dX12_noTold_0 rfl 0 rfl ?_
  refine zs_iload_n dX12_noTold_1 rfl 1 rfl ?_
  refine zs_cV_iR (rest := []) (k_X12_noTray hN _ _) dX12_noTold_2 lv_X12_365 ok_X12_noTray (zz_rcv_o (shm_0 hN) rfl) (Nat.le_of_ble_eq_true rfl) rfl rfl (Nat.le_of_ble_eq_true rfl) (fun r1 => ?_)
  refine zs_istore_n [(2, .int r1), (0, .ref (zz_a G 0)), (1, .int p1)] dX12_noTold_5 rfl (Nat.le_of_ble_eq_true rfl) rfl ?_
  refine zs_iload_n dX12_noTold_6 rfl 0 rfl ?_
  refine zs_if_eq (tgt := 12) dX12_noTold_7 (by decide) ?_ ?_
  · refine zs_aload_n dX12_noTold_12 rfl 1 rfl ?_
    refine zs_getR fl_X12_88 dX12_noTold_13 (shm_0 hN) rfl ?_
    refine zs_iload_n dX12_noTold_16 rfl 2 rfl ?_
    refine zs_ialdG dX12_noTold_17 (shm_24 hN) ?_
    refine zs_i2l dX12_noTold_18 ?_
    refine zs_lconst (v := (1 : Int64)) dX12_noTold_19 rfl ?_
    refine zs_ldc2 (v := (8 : Int64)) dX12_noTold_20 kc_X12_430 ?_
    refine zs_cS_iR (rest := []) (k_X12_within hN _ _ _ _) dX12_noTold_23 ls_X12_163 ok_X12_within (Nat.le_of_ble_eq_true rfl) rfl rfl (Nat.le_of_ble_eq_true rfl) (fun r2 => ?_)
    refine zs_if_ne (tgt := 32) dX12_noTold_26 (by decide) ?_ ?_
    · refine zs_iconst (v := (0 : Int32)) dX12_noTold_32 ci_0 ?_
      refine zs_istore_n [(3, .int (0 : Int32)), (2, .int r1), (0, .ref (zz_a G 0)), (1, .int p1)] dX12_noTold_33 rfl (Nat.le_of_ble_eq_true rfl) rfl ?_
      refine zs_sub [2, 3, 0] rfl ?_
      exact t_X12_noTold_34 hN zz_fuel _ _
    · refine zs_bipush (v := (-4 : Int32)) dX12_noTold_29 cb_m4 ?_
      exact zs_iret dX12_noTold_31 rfl rfl rfl
  · refine zs_iload_n dX12_noTold_10 rfl 0 rfl ?_
    exact zs_iret dX12_noTold_11 rfl rfl rfl
/-! X12_shiftsOf: PillarDeskModel.shiftsOf(I)I -/
theorem dX12_shiftsOf_0 : decode cX12_shiftsOf 0 = .ok (.iconst 0, 1) := by decide +kernel
theorem dX12_shiftsOf_1 : decode cX12_shiftsOf 1 = .ok (.istore_n 2, 1) := by decide +kernel
theorem dX12_shiftsOf_2 : decode cX12_shiftsOf 2 = .ok (.iconst 0, 1) := by decide +kernel
theorem dX12_shiftsOf_3 : decode cX12_shiftsOf 3 = .ok (.istore_n 3, 1) := by decide +kernel
theorem dX12_shiftsOf_4 : decode cX12_shiftsOf 4 = .ok (.iload_n 3, 1) := by decide +kernel
theorem dX12_shiftsOf_5 : decode cX12_shiftsOf 5 = .ok (.bipush 10, 2) := by decide +kernel
theorem dX12_shiftsOf_7 : decode cX12_shiftsOf 7 = .ok (.if_icmp .ge 111, 3) := by decide +kernel
theorem dX12_shiftsOf_10 : decode cX12_shiftsOf 10 = .ok (.aload_n 0, 1) := by decide +kernel
theorem dX12_shiftsOf_11 : decode cX12_shiftsOf 11 = .ok (.iload_n 3, 1) := by decide +kernel
theorem dX12_shiftsOf_12 : decode cX12_shiftsOf 12 = .ok (.invokevirtual 306, 3) := by decide +kernel
theorem dX12_shiftsOf_15 : decode cX12_shiftsOf 15 = .ok (.aload_n 0, 1) := by decide +kernel
theorem dX12_shiftsOf_16 : decode cX12_shiftsOf 16 = .ok (.invokevirtual 309, 3) := by decide +kernel
theorem dX12_shiftsOf_19 : decode cX12_shiftsOf 19 = .ok (.iconst 1, 1) := by decide +kernel
theorem dX12_shiftsOf_20 : decode cX12_shiftsOf 20 = .ok (.istore 4, 2) := by decide +kernel
theorem dX12_shiftsOf_22 : decode cX12_shiftsOf 22 = .ok (.iconst 0, 1) := by decide +kernel
theorem dX12_shiftsOf_23 : decode cX12_shiftsOf 23 = .ok (.istore 5, 2) := by decide +kernel
theorem dX12_shiftsOf_25 : decode cX12_shiftsOf 25 = .ok (.iload 5, 2) := by decide +kernel
theorem dX12_shiftsOf_27 : decode cX12_shiftsOf 27 = .ok (.aload_n 0, 1) := by decide +kernel
theorem dX12_shiftsOf_28 : decode cX12_shiftsOf 28 = .ok (.getfield 88, 3) := by decide +kernel
theorem dX12_shiftsOf_31 : decode cX12_shiftsOf 31 = .ok (.iload_n 1, 1) := by decide +kernel
theorem dX12_shiftsOf_32 : decode cX12_shiftsOf 32 = .ok (.iaload, 1) := by decide +kernel
theorem dX12_shiftsOf_33 : decode cX12_shiftsOf 33 = .ok (.if_icmp .ge 64, 3) := by decide +kernel
theorem dX12_shiftsOf_36 : decode cX12_shiftsOf 36 = .ok (.iload 4, 2) := by decide +kernel
theorem dX12_shiftsOf_38 : decode cX12_shiftsOf 38 = .ok (.aload_n 0, 1) := by decide +kernel
theorem dX12_shiftsOf_39 : decode cX12_shiftsOf 39 = .ok (.aload_n 0, 1) := by decide +kernel
theorem dX12_shiftsOf_40 : decode cX12_shiftsOf 40 = .ok (.getfield 91, 3) := by decide +kernel
theorem dX12_shiftsOf_43 : decode cX12_shiftsOf 43 = .ok (.bipush 40, 2) := by decide +kernel
theorem dX12_shiftsOf_45 : decode cX12_shiftsOf 45 = .ok (.iload_n 1, 1) := by decide +kernel
theorem dX12_shiftsOf_46 : decode cX12_shiftsOf 46 = .ok (.imul, 1) := by decide +kernel
theorem dX12_shiftsOf_47 : decode cX12_shiftsOf 47 = .ok (.iload 5, 2) := by decide +kernel
theorem dX12_shiftsOf_49 : decode cX12_shiftsOf 49 = .ok (.iadd, 1) := by decide +kernel
theorem dX12_shiftsOf_50 : decode cX12_shiftsOf 50 = .ok (.laload, 1) := by decide +kernel
theorem dX12_shiftsOf_51 : decode cX12_shiftsOf 51 = .ok (.ldc2_w 434, 3) := by decide +kernel
theorem dX12_shiftsOf_54 : decode cX12_shiftsOf 54 = .ok (.ldiv, 1) := by decide +kernel
theorem dX12_shiftsOf_55 : decode cX12_shiftsOf 55 = .ok (.l2i, 1) := by decide +kernel
theorem dX12_shiftsOf_56 : decode cX12_shiftsOf 56 = .ok (.invokevirtual 290, 3) := by decide +kernel
theorem dX12_shiftsOf_59 : decode cX12_shiftsOf 59 = .ok (.bipush 100, 2) := by decide +kernel
theorem dX12_shiftsOf_61 : decode cX12_shiftsOf 61 = .ok (.idiv, 1) := by decide +kernel
theorem dX12_shiftsOf_62 : decode cX12_shiftsOf 62 = .ok (.i2l, 1) := by decide +kernel
theorem dX12_shiftsOf_63 : decode cX12_shiftsOf 63 = .ok (.aload_n 0, 1) := by decide +kernel
theorem dX12_shiftsOf_64 : decode cX12_shiftsOf 64 = .ok (.getfield 91, 3) := by decide +kernel
theorem dX12_shiftsOf_67 : decode cX12_shiftsOf 67 = .ok (.bipush 40, 2) := by decide +kernel
theorem dX12_shiftsOf_69 : decode cX12_shiftsOf 69 = .ok (.iload_n 1, 1) := by decide +kernel
theorem dX12_shiftsOf_70 : decode cX12_shiftsOf 70 = .ok (.imul, 1) := by decide +kernel
theorem dX12_shiftsOf_71 : decode cX12_shiftsOf 71 = .ok (.iload 5, 2) := by decide +kernel
theorem dX12_shiftsOf_73 : decode cX12_shiftsOf 73 = .ok (.iadd, 1) := by decide +kernel
theorem dX12_shiftsOf_74 : decode cX12_shiftsOf 74 = .ok (.laload, 1) := by decide +kernel
theorem dX12_shiftsOf_75 : decode cX12_shiftsOf 75 = .ok (.ldc2_w 434, 3) := by decide +kernel
theorem dX12_shiftsOf_78 : decode cX12_shiftsOf 78 = .ok (.lrem, 1) := by decide +kernel
theorem dX12_shiftsOf_79 : decode cX12_shiftsOf 79 = .ok (.lcmp, 1) := by decide +kernel
theorem dX12_shiftsOf_80 : decode cX12_shiftsOf 80 = .ok (.ifCond .ne 7, 3) := by decide +kernel
theorem dX12_shiftsOf_83 : decode cX12_shiftsOf 83 = .ok (.iconst 1, 1) := by decide +kernel
theorem dX12_shiftsOf_84 : decode cX12_shiftsOf 84 = .ok (.goto 4, 3) := by decide +kernel
theorem dX12_shiftsOf_87 : decode cX12_shiftsOf 87 = .ok (.iconst 0, 1) := by decide +kernel
theorem dX12_shiftsOf_88 : decode cX12_shiftsOf 88 = .ok (.iand, 1) := by decide +kernel
theorem dX12_shiftsOf_89 : decode cX12_shiftsOf 89 = .ok (.istore 4, 2) := by decide +kernel
theorem dX12_shiftsOf_91 : decode cX12_shiftsOf 91 = .ok (.iinc 5 1, 3) := by decide +kernel
theorem dX12_shiftsOf_94 : decode cX12_shiftsOf 94 = .ok (.goto (-69), 3) := by decide +kernel
theorem dX12_shiftsOf_97 : decode cX12_shiftsOf 97 = .ok (.iload_n 2, 1) := by decide +kernel
theorem dX12_shiftsOf_98 : decode cX12_shiftsOf 98 = .ok (.iload 4, 2) := by decide +kernel
theorem dX12_shiftsOf_100 : decode cX12_shiftsOf 100 = .ok (.ifCond .eq 9, 3) := by decide +kernel
theorem dX12_shiftsOf_103 : decode cX12_shiftsOf 103 = .ok (.iconst 1, 1) := by decide +kernel
theorem dX12_shiftsOf_104 : decode cX12_shiftsOf 104 = .ok (.iload_n 3, 1) := by decide +kernel
theorem dX12_shiftsOf_105 : decode cX12_shiftsOf 105 = .ok (.ishl, 1) := by decide +kernel
theorem dX12_shiftsOf_106 : decode cX12_shiftsOf 106 = .ok (.goto 4, 3) := by decide +kernel
theorem dX12_shiftsOf_109 : decode cX12_shiftsOf 109 = .ok (.iconst 0, 1) := by decide +kernel
theorem dX12_shiftsOf_110 : decode cX12_shiftsOf 110 = .ok (.ior, 1) := by decide +kernel
theorem dX12_shiftsOf_111 : decode cX12_shiftsOf 111 = .ok (.istore_n 2, 1) := by decide +kernel
theorem dX12_shiftsOf_112 : decode cX12_shiftsOf 112 = .ok (.iinc 3 1, 3) := by decide +kernel
theorem dX12_shiftsOf_115 : decode cX12_shiftsOf 115 = .ok (.goto (-111), 3) := by decide +kernel
theorem dX12_shiftsOf_118 : decode cX12_shiftsOf 118 = .ok (.iload_n 2, 1) := by decide +kernel
theorem dX12_shiftsOf_119 : decode cX12_shiftsOf 119 = .ok (.ireturn, 1) := by decide +kernel
def f_X12_shiftsOf_110  (k4 : Int32 → Int32 → Int32 → zz_Mem → Option (Int32 × zz_Mem)) (v1 : Int32) (v3 : Int32) (s0 : Int32) (s1 : Int32) (m : zz_Mem) : Option (Int32 × zz_Mem) :=
  zz_letI (s1 ||| s0) fun x1 =>
  zz_letI (v3 + (1 : Int32)) fun x2 =>
  k4 v1 x1 x2 m
theorem t_X12_shiftsOf_110 {l : Launch} {G : zz_G} (hN : 26 ≤ zz_N G) {k4 : Int32 → Int32 → Int32 → zz_Mem → Option (Int32 × zz_Mem)} (hk4 : ∀ (v1 : Int32) (v2 : Int32) (v3 : Int32) (m : zz_Mem), zz_Sim zz_shM l G mX12_shiftsOf 5 zz_vI zz_m2 (k4 v1 v2 v3 m) 4 [(0, .ref (zz_a G 0)), (1, .int v1), (2, .int v2), (3, .int v3)] [] m) : ∀ (v1 : Int32) (v3 : Int32) (s0 : Int32) (s1 : Int32) (m : zz_Mem), zz_Sim zz_shM l G mX12_shiftsOf 5 zz_vI zz_m2 (f_X12_shiftsOf_110 k4 v1 v3 s0 s1 m) 110 [(0, .ref (zz_a G 0)), (1, .int v1), (3, .int v3)] [.int s0, .int s1] m := by
  intro v1 v3 s0 s1 m
  unfold f_X12_shiftsOf_110
  refine zs_ior dX12_shiftsOf_110 ?_
  refine zs_letI (fun x1 => ?_)
  refine zs_istore_n [(2, .int x1), (0, .ref (zz_a G 0)), (1, .int v1), (3, .int v3)] dX12_shiftsOf_111 rfl (Nat.le_of_ble_eq_true rfl) rfl ?_
  refine zs_iinc (fun y => [(3, .int y), (2, .int x1), (0, .ref (zz_a G 0)), (1, .int v1)]) dX12_shiftsOf_112 3 rfl ci_1 (Nat.le_of_ble_eq_true rfl) (fun _ => rfl) (fun x2 => ?_)
  refine zs_goto (tgt := 4) dX12_shiftsOf_115 (by decide) ?_
  refine zs_sub [2, 3, 1, 0] rfl ?_
  exact hk4 _ _ _ _
def f_X12_shiftsOf_97  (k4 : Int32 → Int32 → Int32 → zz_Mem → Option (Int32 × zz_Mem)) (v1 : Int32) (v2 : Int32) (v3 : Int32) (v4 : Int32) (m : zz_Mem) : Option (Int32 × zz_Mem) :=
  if v4 = 0 then (
  f_X12_shiftsOf_110 k4 v1 v3 (0 : Int32) v2 m)
  else (
  f_X12_shiftsOf_110 k4 v1 v3 ((1 : Int32) <<< (v3 &&& 31)) v2 m)
theorem t_X12_shiftsOf_97 {l : Launch} {G : zz_G} (hN : 26 ≤ zz_N G) {k4 : Int32 → Int32 → Int32 → zz_Mem → Option (Int32 × zz_Mem)} (hk4 : ∀ (v1 : Int32) (v2 : Int32) (v3 : Int32) (m : zz_Mem), zz_Sim zz_shM l G mX12_shiftsOf 5 zz_vI zz_m2 (k4 v1 v2 v3 m) 4 [(0, .ref (zz_a G 0)), (1, .int v1), (2, .int v2), (3, .int v3)] [] m) : ∀ (v1 : Int32) (v2 : Int32) (v3 : Int32) (v4 : Int32) (m : zz_Mem), zz_Sim zz_shM l G mX12_shiftsOf 5 zz_vI zz_m2 (f_X12_shiftsOf_97 k4 v1 v2 v3 v4 m) 97 [(0, .ref (zz_a G 0)), (1, .int v1), (2, .int v2), (3, .int v3), (4, .int v4)] [] m := by
  intro v1 v2 v3 v4 m
  unfold f_X12_shiftsOf_97
  refine zs_iload_n dX12_shiftsOf_97 rfl 2 rfl ?_
  refine zs_iload dX12_shiftsOf_98 4 rfl ?_
  refine zs_if_eq (tgt := 109) dX12_shiftsOf_100 (by decide) ?_ ?_
  · refine zs_iconst (v := (0 : Int32)) dX12_shiftsOf_109 ci_0 ?_
    refine zs_sub [0, 1, 3] rfl ?_
    exact t_X12_shiftsOf_110 hN hk4 _ _ _ _ _
  · refine zs_iconst (v := (1 : Int32)) dX12_shiftsOf_103 ci_1 ?_
    refine zs_iload_n dX12_shiftsOf_104 rfl 3 rfl ?_
    refine zs_ishl dX12_shiftsOf_105 ?_
    refine zs_goto (tgt := 110) dX12_shiftsOf_106 (by decide) ?_
    refine zs_sub [0, 1, 3] rfl ?_
    exact t_X12_shiftsOf_110 hN hk4 _ _ _ _ _
def f_X12_shiftsOf_88  (k4 : Int32 → Int32 → Int32 → zz_Mem → Option (Int32 × zz_Mem)) (k25 : Int32 → Int32 → Int32 → Int32 → Int32 → zz_Mem → Option (Int32 × zz_Mem)) (v1 : Int32) (v2 : Int32) (v3 : Int32) (v5 : Int32) (s0 : Int32) (s1 : Int32) (m : zz_Mem) : Option (Int32 × zz_Mem) :=
  zz_letI (s1 &&& s0) fun x1 =>
  zz_letI (v5 + (1 : Int32)) fun x2 =>
  k25 v1 v2 v3 x1 x2 m
theorem t_X12_shiftsOf_88 {l : Launch} {G : zz_G} (hN : 26 ≤ zz_N G) {k4 : Int32 → Int32 → Int32 → zz_Mem → Option (Int32 × zz_Mem)} {k25 : Int32 → Int32 → Int32 → Int32 → Int32 → zz_Mem → Option (Int32 × zz_Mem)} (hk4 : ∀ (v1 : Int32) (v2 : Int32) (v3 : Int32) (m : zz_Mem), zz_Sim zz_shM l G mX12_shiftsOf 5 zz_vI zz_m2 (k4 v1 v2 v3 m) 4 [(0, .ref (zz_a G 0)), (1, .int v1), (2, .int v2), (3, .int v3)] [] m) (hk25 : ∀ (v1 : Int32) (v2 : Int32) (v3 : Int32) (v4 : Int32) (v5 : Int32) (m : zz_Mem), zz_Sim zz_shM l G mX12_shiftsOf 5 zz_vI zz_m2 (k25 v1 v2 v3 v4 v5 m) 25 [(0, .ref (zz_a G 0)), (1, .int v1), (2, .int v2), (3, .int v3), (4, .int v4), (5, .int v5)] [] m) : ∀ (v1 : Int32) (v2 : Int32) (v3 : Int32) (v5 : Int32) (s0 : Int32) (s1 : Int32) (m : zz_Mem), zz_Sim zz_shM l G mX12_shiftsOf 5 zz_vI zz_m2 (f_X12_shiftsOf_88 k4 k25 v1 v2 v3 v5 s0 s1 m) 88 [(0, .ref (zz_a G 0)), (1, .int v1), (2, .int v2), (3, .int v3), (5, .int v5)] [.int s0, .int s1] m := by
  intro v1 v2 v3 v5 s0 s1 m
  unfold f_X12_shiftsOf_88
  refine zs_iand dX12_shiftsOf_88 ?_
  refine zs_letI (fun x1 => ?_)
  refine zs_istore [(4, .int x1), (0, .ref (zz_a G 0)), (1, .int v1), (2, .int v2), (3, .int v3), (5, .int v5)] dX12_shiftsOf_89 (Nat.le_of_ble_eq_true rfl) rfl ?_
  refine zs_iinc (fun y => [(5, .int y), (4, .int x1), (0, .ref (zz_a G 0)), (1, .int v1), (2, .int v2), (3, .int v3)]) dX12_shiftsOf_91 5 rfl ci_1 (Nat.le_of_ble_eq_true rfl) (fun _ => rfl) (fun x2 => ?_)
  refine zs_goto (tgt := 25) dX12_shiftsOf_94 (by decide) ?_
  refine zs_sub [2, 3, 4, 5, 1, 0] rfl ?_
  exact hk25 _ _ _ _ _ _
def f_X12_shiftsOf_25  (k4 : Int32 → Int32 → Int32 → zz_Mem → Option (Int32 × zz_Mem)) : Nat → Int32 → Int32 → Int32 → Int32 → Int32 → zz_Mem → Option (Int32 × zz_Mem)
  | 0, _, _, _, _, _, _ => none
  | n + 1, v1, v2, v3, v4, v5, m =>
  zz_ix v1 4 <|
  if (m.1 24 v1.toNatClampNeg) ≤ v5 then (
  f_X12_shiftsOf_97 k4 v1 v2 v3 v4 m)
  else (
  zz_ix (((40 : Int32) * v1) + v5) 160 <|
  zz_bndR (f_X12_factorAt m (((m.2.1 25 (((40 : Int32) * v1) + v5).toNatClampNeg) / (100000000 : Int64)).toInt32)) fun r1 =>
  zz_ix (((40 : Int32) * v1) + v5) 160 <|
  if ((r1 / (100 : Int32)).toInt64) = ((m.2.1 25 (((40 : Int32) * v1) + v5).toNatClampNeg) - (m.2.1 25 (((40 : Int32) * v1) + v5).toNatClampNeg) / (100000000 : Int64) * (100000000 : Int64)) then (
  f_X12_shiftsOf_88 k4 (f_X12_shiftsOf_25 k4 n) v1 v2 v3 v5 (1 : Int32) v4 m)
  else (
  f_X12_shiftsOf_88 k4 (f_X12_shiftsOf_25 k4 n) v1 v2 v3 v5 (0 : Int32) v4 m))
theorem t_X12_shiftsOf_25 {l : Launch} {G : zz_G} (hN : 26 ≤ zz_N G) {k4 : Int32 → Int32 → Int32 → zz_Mem → Option (Int32 × zz_Mem)} (hk4 : ∀ (v1 : Int32) (v2 : Int32) (v3 : Int32) (m : zz_Mem), zz_Sim zz_shM l G mX12_shiftsOf 5 zz_vI zz_m2 (k4 v1 v2 v3 m) 4 [(0, .ref (zz_a G 0)), (1, .int v1), (2, .int v2), (3, .int v3)] [] m) : ∀ (n : Nat) (v1 : Int32) (v2 : Int32) (v3 : Int32) (v4 : Int32) (v5 : Int32) (m : zz_Mem), zz_Sim zz_shM l G mX12_shiftsOf 5 zz_vI zz_m2 (f_X12_shiftsOf_25 k4 n v1 v2 v3 v4 v5 m) 25 [(0, .ref (zz_a G 0)), (1, .int v1), (2, .int v2), (3, .int v3), (4, .int v4), (5, .int v5)] [] m := by
  intro n
  induction n with
  | zero => intro _ _ _ _ _ _; exact zs_none
  | succ n ih =>
    intro v1 v2 v3 v4 v5 m
    rw [f_X12_shiftsOf_25]
    refine zs_iload dX12_shiftsOf_25 5 rfl ?_
    refine zs_aload_n dX12_shiftsOf_27 rfl 0 rfl ?_
    refine zs_getR fl_X12_88 dX12_shiftsOf_28 (shm_0 hN) rfl ?_
    refine zs_iload_n dX12_shiftsOf_31 rfl 1 rfl ?_
    refine zs_ialdG dX12_shiftsOf_32 (shm_24 hN) ?_
    refine zs_icmp_ge (tgt := 97) dX12_shiftsOf_33 (by decide) ?_ ?_
    · refine zs_sub [0, 1, 2, 3, 4] rfl ?_
      exact t_X12_shiftsOf_97 hN hk4 _ _ _ _ _
    · refine zs_iload dX12_shiftsOf_36 4 rfl ?_
      refine zs_aload_n dX12_shiftsOf_38 rfl 0 rfl ?_
      refine zs_aload_n dX12_shiftsOf_39 rfl 0 rfl ?_
      refine zs_getR fl_X12_91 dX12_shiftsOf_40 (shm_0 hN) rfl ?_
      refine zs_bipush (v := (40 : Int32)) dX12_shiftsOf_43 cb_40 ?_
      refine zs_iload_n dX12_shiftsOf_45 rfl 1 rfl ?_
      refine zs_imul dX12_shiftsOf_46 ?_
      refine zs_iload dX12_shiftsOf_47 5 rfl ?_
      refine zs_iadd dX12_shiftsOf_49 ?_
      refine zs_laldG dX12_shiftsOf_50 (shm_25 hN) ?_
      refine zs_ldc2 (v := (100000000 : Int64)) dX12_shiftsOf_51 kc_X12_434 ?_
      refine zs_ldiv dX12_shiftsOf_54 (by decide) ?_
      refine zs_l2i dX12_shiftsOf_55 ?_
      refine zs_cV_iR (rest := [.int v4]) (k_X12_factorAt hN _ _) dX12_shiftsOf_56 lv_X12_290 ok_X12_factorAt (zz_rcv_o (shm_0 hN) rfl) (Nat.le_of_ble_eq_true rfl) rfl rfl (Nat.le_of_ble_eq_true rfl) (fun r1 => ?_)
      refine zs_bipush (v := (100 : Int32)) dX12_shiftsOf_59 cb_100 ?_
      refine zs_idiv dX12_shiftsOf_61 (by decide) ?_
      refine zs_i2l dX12_shiftsOf_62 ?_
      refine zs_aload_n dX12_shiftsOf_63 rfl 0 rfl ?_
      refine zs_getR fl_X12_91 dX12_shiftsOf_64 (shm_0 hN) rfl ?_
      refine zs_bipush (v := (40 : Int32)) dX12_shiftsOf_67 cb_40 ?_
      refine zs_iload_n dX12_shiftsOf_69 rfl 1 rfl ?_
      refine zs_imul dX12_shiftsOf_70 ?_
      refine zs_iload dX12_shiftsOf_71 5 rfl ?_
      refine zs_iadd dX12_shiftsOf_73 ?_
      refine zs_laldG dX12_shiftsOf_74 (shm_25 hN) ?_
      refine zs_ldc2 (v := (100000000 : Int64)) dX12_shiftsOf_75 kc_X12_434 ?_
      refine zs_lrem dX12_shiftsOf_78 (by decide) ?_
      refine zs_lcmp_ne (tgt := 87) dX12_shiftsOf_79 dX12_shiftsOf_80 (by decide) ?_ ?_
      · refine zs_iconst (v := (0 : Int32)) dX12_shiftsOf_87 ci_0 ?_
        refine zs_sub [0, 1, 2, 3, 5] rfl ?_
        exact t_X12_shiftsOf_88 hN hk4 ih _ _ _ _ _ _ _
      · refine zs_iconst (v := (1 : Int32)) dX12_shiftsOf_83 ci_1 ?_
        refine zs_goto (tgt := 88) dX12_shiftsOf_84 (by decide) ?_
        refine zs_sub [0, 1, 2, 3, 5] rfl ?_
        exact t_X12_shiftsOf_88 hN hk4 ih _ _ _ _ _ _ _
def f_X12_shiftsOf_4   : Nat → Int32 → Int32 → Int32 → zz_Mem → Option (Int32 × zz_Mem)
  | 0, _, _, _, _ => none
  | n + 1, v1, v2, v3, m =>
  if (10 : Int32) ≤ v3 then (
  some (v2, m))
  else (
  zz_bndR (f_X12_laysCounts v3 m) fun m1 =>
  zz_bndR (f_X12_laysPillars m1) fun m2 =>
  f_X12_shiftsOf_25 (f_X12_shiftsOf_4 n) zz_fuel v1 v2 v3 (1 : Int32) (0 : Int32) m2)
theorem t_X12_shiftsOf_4 {l : Launch} {G : zz_G} (hN : 26 ≤ zz_N G)  : ∀ (n : Nat) (v1 : Int32) (v2 : Int32) (v3 : Int32) (m : zz_Mem), zz_Sim zz_shM l G mX12_shiftsOf 5 zz_vI zz_m2 (f_X12_shiftsOf_4 n v1 v2 v3 m) 4 [(0, .ref (zz_a G 0)), (1, .int v1), (2, .int v2), (3, .int v3)] [] m := by
  intro n
  induction n with
  | zero => intro _ _ _ _; exact zs_none
  | succ n ih =>
    intro v1 v2 v3 m
    rw [f_X12_shiftsOf_4]
    refine zs_iload_n dX12_shiftsOf_4 rfl 3 rfl ?_
    refine zs_bipush (v := (10 : Int32)) dX12_shiftsOf_5 cb_10 ?_
    refine zs_icmp_ge (tgt := 118) dX12_shiftsOf_7 (by decide) ?_ ?_
    · refine zs_iload_n dX12_shiftsOf_118 rfl 2 rfl ?_
      exact zs_iret dX12_shiftsOf_119 rfl rfl rfl
    · refine zs_aload_n dX12_shiftsOf_10 rfl 0 rfl ?_
      refine zs_iload_n dX12_shiftsOf_11 rfl 3 rfl ?_
      refine zs_cV_vW (rest := []) (k_X12_laysCounts hN _ _) dX12_shiftsOf_12 lv_X12_306 ok_X12_laysCounts (zz_rcv_o (shm_0 hN) rfl) (Nat.le_of_ble_eq_true rfl) rfl rfl (Nat.le_of_ble_eq_true rfl) (fun m1 => ?_)
      refine zs_aload_n dX12_shiftsOf_15 rfl 0 rfl ?_
      refine zs_cV_vW (rest := []) (k_X12_laysPillars hN  _) dX12_shiftsOf_16 lv_X12_309 ok_X12_laysPillars (zz_rcv_o (shm_0 hN) rfl) (Nat.le_of_ble_eq_true rfl) rfl rfl (Nat.le_of_ble_eq_true rfl) (fun m2 => ?_)
      refine zs_iconst (v := (1 : Int32)) dX12_shiftsOf_19 ci_1 ?_
      refine zs_istore [(4, .int (1 : Int32)), (0, .ref (zz_a G 0)), (1, .int v1), (2, .int v2), (3, .int v3)] dX12_shiftsOf_20 (Nat.le_of_ble_eq_true rfl) rfl ?_
      refine zs_iconst (v := (0 : Int32)) dX12_shiftsOf_22 ci_0 ?_
      refine zs_istore [(5, .int (0 : Int32)), (4, .int (1 : Int32)), (0, .ref (zz_a G 0)), (1, .int v1), (2, .int v2), (3, .int v3)] dX12_shiftsOf_23 (Nat.le_of_ble_eq_true rfl) rfl ?_
      refine zs_sub [2, 3, 4, 5, 1, 0] rfl ?_
      exact t_X12_shiftsOf_25 hN ih zz_fuel _ _ _ _ _ _
def f_X12_shiftsOf  (p1 : Int32) (m : zz_Mem) : Option (Int32 × zz_Mem) :=
  f_X12_shiftsOf_4 zz_fuel p1 (0 : Int32) (0 : Int32) m
theorem k_X12_shiftsOf {l : Launch} {G : zz_G} (hN : 26 ≤ zz_N G) : ∀ (p1 : Int32) (m : zz_Mem), zz_Con zz_shM l G mX12_shiftsOf 5 [.ref (zz_a G 0), .int p1] zz_vI zz_m2 (f_X12_shiftsOf p1 m) m := by
  intro p1 m
  refine zz_con (lv := [(0, .ref (zz_a G 0)), (1, .int p1)]) (by decide +kernel) (Nat.le_of_ble_eq_true rfl) rfl ?_
  unfold f_X12_shiftsOf
  refine zs_iconst (v := (0 : Int32)) dX12_shiftsOf_0 ci_0 ?_
  refine zs_istore_n [(2, .int (0 : Int32)), (0, .ref (zz_a G 0)), (1, .int p1)] dX12_shiftsOf_1 rfl (Nat.le_of_ble_eq_true rfl) rfl ?_
  refine zs_iconst (v := (0 : Int32)) dX12_shiftsOf_2 ci_0 ?_
  refine zs_istore_n [(3, .int (0 : Int32)), (2, .int (0 : Int32)), (0, .ref (zz_a G 0)), (1, .int p1)] dX12_shiftsOf_3 rfl (Nat.le_of_ble_eq_true rfl) rfl ?_
  refine zs_sub [2, 3, 1, 0] rfl ?_
  exact t_X12_shiftsOf_4 hN zz_fuel _ _ _ _
/-! X12_shifts: PillarDeskModel.shifts(I)I -/
theorem dX12_shifts_0 : decode cX12_shifts 0 = .ok (.aload_n 0, 1) := by decide +kernel
theorem dX12_shifts_1 : decode cX12_shifts 1 = .ok (.iconst 0, 1) := by decide +kernel
theorem dX12_shifts_2 : decode cX12_shifts 2 = .ok (.putfield 1, 3) := by decide +kernel
theorem dX12_shifts_5 : decode cX12_shifts 5 = .ok (.aload_n 0, 1) := by decide +kernel
theorem dX12_shifts_6 : decode cX12_shifts 6 = .ok (.iload_n 1, 1) := by decide +kernel
theorem dX12_shifts_7 : decode cX12_shifts 7 = .ok (.invokevirtual 436, 3) := by decide +kernel
theorem dX12_shifts_10 : decode cX12_shifts 10 = .ok (.istore_n 2, 1) := by decide +kernel
theorem dX12_shifts_11 : decode cX12_shifts 11 = .ok (.iload_n 2, 1) := by decide +kernel
theorem dX12_shifts_12 : decode cX12_shifts 12 = .ok (.ifCond .eq 7, 3) := by decide +kernel
theorem dX12_shifts_15 : decode cX12_shifts 15 = .ok (.iload_n 2, 1) := by decide +kernel
theorem dX12_shifts_16 : decode cX12_shifts 16 = .ok (.goto 8, 3) := by decide +kernel
theorem dX12_shifts_19 : decode cX12_shifts 19 = .ok (.aload_n 0, 1) := by decide +kernel
theorem dX12_shifts_20 : decode cX12_shifts 20 = .ok (.iload_n 1, 1) := by decide +kernel
theorem dX12_shifts_21 : decode cX12_shifts 21 = .ok (.invokevirtual 439, 3) := by decide +kernel
theorem dX12_shifts_24 : decode cX12_shifts 24 = .ok (.ireturn, 1) := by decide +kernel
def f_X12_shifts  (p1 : Int32) (m : zz_Mem) : Option (Int32 × zz_Mem) :=
  zz_letM (zz_setI m 0 0 (0 : Int32)) fun m1 =>
  zz_bndR (f_X12_noTold m1 p1) fun r2 =>
  if r2 = 0 then (
  zz_bnd (f_X12_shiftsOf p1 m1) fun r3 m4 =>
  some (r3, m4))
  else (
  some (r2, m1))
theorem k_X12_shifts {l : Launch} {G : zz_G} (hN : 26 ≤ zz_N G) : ∀ (p1 : Int32) (m : zz_Mem), zz_Con zz_shM l G mX12_shifts 6 [.ref (zz_a G 0), .int p1] zz_vI zz_m2 (f_X12_shifts p1 m) m := by
  intro p1 m
  refine zz_con (lv := [(0, .ref (zz_a G 0)), (1, .int p1)]) (by decide +kernel) (Nat.le_of_ble_eq_true rfl) rfl ?_
  unfold f_X12_shifts
  refine zs_aload_n dX12_shifts_0 rfl 0 rfl ?_
  refine zs_iconst (v := (0 : Int32)) dX12_shifts_1 ci_0 ?_
  refine zs_putI fl_X12_1 dX12_shifts_2 (shm_0 hN) rfl ⟨rfl, rfl⟩ (fun m1 => ?_)
  refine zs_aload_n dX12_shifts_5 rfl 0 rfl ?_
  refine zs_iload_n dX12_shifts_6 rfl 1 rfl ?_
  refine zs_cV_iR (rest := []) (k_X12_noTold hN _ _) dX12_shifts_7 lv_X12_436 ok_X12_noTold (zz_rcv_o (shm_0 hN) rfl) (Nat.le_of_ble_eq_true rfl) rfl rfl (Nat.le_of_ble_eq_true rfl) (fun r2 => ?_)
  refine zs_istore_n [(2, .int r2), (0, .ref (zz_a G 0)), (1, .int p1)] dX12_shifts_10 rfl (Nat.le_of_ble_eq_true rfl) rfl ?_
  refine zs_iload_n dX12_shifts_11 rfl 0 rfl ?_
  refine zs_if_eq (tgt := 19) dX12_shifts_12 (by decide) ?_ ?_
  · refine zs_aload_n dX12_shifts_19 rfl 1 rfl ?_
    refine zs_iload_n dX12_shifts_20 rfl 2 rfl ?_
    refine zs_cV_iW (rest := []) (k_X12_shiftsOf hN _ _) dX12_shifts_21 lv_X12_439 ok_X12_shiftsOf (zz_rcv_o (shm_0 hN) rfl) (Nat.le_of_ble_eq_true rfl) rfl rfl (Nat.le_of_ble_eq_true rfl) (fun r3 m4 => ?_)
    exact zs_iret dX12_shifts_24 rfl rfl rfl
  · refine zs_iload_n dX12_shifts_15 rfl 0 rfl ?_
    refine zs_goto (tgt := 24) dX12_shifts_16 (by decide) ?_
    exact zs_iret dX12_shifts_24 rfl rfl rfl
/-! X12_mostAlike: PillarDeskModel.mostAlike(II)I -/
theorem dX12_mostAlike_0 : decode cX12_mostAlike 0 = .ok (.iconst 0, 1) := by decide +kernel
theorem dX12_mostAlike_1 : decode cX12_mostAlike 1 = .ok (.istore_n 3, 1) := by decide +kernel
theorem dX12_mostAlike_2 : decode cX12_mostAlike 2 = .ok (.iconst 0, 1) := by decide +kernel
theorem dX12_mostAlike_3 : decode cX12_mostAlike 3 = .ok (.istore 4, 2) := by decide +kernel
theorem dX12_mostAlike_5 : decode cX12_mostAlike 5 = .ok (.iload 4, 2) := by decide +kernel
theorem dX12_mostAlike_7 : decode cX12_mostAlike 7 = .ok (.bipush 10, 2) := by decide +kernel
theorem dX12_mostAlike_9 : decode cX12_mostAlike 9 = .ok (.if_icmp .ge 104, 3) := by decide +kernel
theorem dX12_mostAlike_12 : decode cX12_mostAlike 12 = .ok (.iconst 0, 1) := by decide +kernel
theorem dX12_mostAlike_13 : decode cX12_mostAlike 13 = .ok (.istore 5, 2) := by decide +kernel
theorem dX12_mostAlike_15 : decode cX12_mostAlike 15 = .ok (.iconst 0, 1) := by decide +kernel
theorem dX12_mostAlike_16 : decode cX12_mostAlike 16 = .ok (.istore 6, 2) := by decide +kernel
theorem dX12_mostAlike_18 : decode cX12_mostAlike 18 = .ok (.iload 6, 2) := by decide +kernel
theorem dX12_mostAlike_20 : decode cX12_mostAlike 20 = .ok (.bipush 10, 2) := by decide +kernel
theorem dX12_mostAlike_22 : decode cX12_mostAlike 22 = .ok (.if_icmp .ge 72, 3) := by decide +kernel
theorem dX12_mostAlike_25 : decode cX12_mostAlike 25 = .ok (.iload 5, 2) := by decide +kernel
theorem dX12_mostAlike_27 : decode cX12_mostAlike 27 = .ok (.iload_n 1, 1) := by decide +kernel
theorem dX12_mostAlike_28 : decode cX12_mostAlike 28 = .ok (.i2l, 1) := by decide +kernel
theorem dX12_mostAlike_29 : decode cX12_mostAlike 29 = .ok (.iload 4, 2) := by decide +kernel
theorem dX12_mostAlike_31 : decode cX12_mostAlike 31 = .ok (.invokestatic 442, 3) := by decide +kernel
theorem dX12_mostAlike_34 : decode cX12_mostAlike 34 = .ok (.ifCond .eq 50, 3) := by decide +kernel
theorem dX12_mostAlike_37 : decode cX12_mostAlike 37 = .ok (.iload_n 1, 1) := by decide +kernel
theorem dX12_mostAlike_38 : decode cX12_mostAlike 38 = .ok (.i2l, 1) := by decide +kernel
theorem dX12_mostAlike_39 : decode cX12_mostAlike 39 = .ok (.iload 6, 2) := by decide +kernel
theorem dX12_mostAlike_41 : decode cX12_mostAlike 41 = .ok (.invokestatic 442, 3) := by decide +kernel
theorem dX12_mostAlike_44 : decode cX12_mostAlike 44 = .ok (.ifCond .eq 40, 3) := by decide +kernel
theorem dX12_mostAlike_47 : decode cX12_mostAlike 47 = .ok (.aload_n 0, 1) := by decide +kernel
theorem dX12_mostAlike_48 : decode cX12_mostAlike 48 = .ok (.getfield 79, 3) := by decide +kernel
theorem dX12_mostAlike_51 : decode cX12_mostAlike 51 = .ok (.bipush 9, 2) := by decide +kernel
theorem dX12_mostAlike_53 : decode cX12_mostAlike 53 = .ok (.iload 4, 2) := by decide +kernel
theorem dX12_mostAlike_55 : decode cX12_mostAlike 55 = .ok (.imul, 1) := by decide +kernel
theorem dX12_mostAlike_56 : decode cX12_mostAlike 56 = .ok (.iload_n 2, 1) := by decide +kernel
theorem dX12_mostAlike_57 : decode cX12_mostAlike 57 = .ok (.iadd, 1) := by decide +kernel
theorem dX12_mostAlike_58 : decode cX12_mostAlike 58 = .ok (.iaload, 1) := by decide +kernel
theorem dX12_mostAlike_59 : decode cX12_mostAlike 59 = .ok (.bipush 100, 2) := by decide +kernel
theorem dX12_mostAlike_61 : decode cX12_mostAlike 61 = .ok (.idiv, 1) := by decide +kernel
theorem dX12_mostAlike_62 : decode cX12_mostAlike 62 = .ok (.aload_n 0, 1) := by decide +kernel
theorem dX12_mostAlike_63 : decode cX12_mostAlike 63 = .ok (.getfield 79, 3) := by decide +kernel
theorem dX12_mostAlike_66 : decode cX12_mostAlike 66 = .ok (.bipush 9, 2) := by decide +kernel
theorem dX12_mostAlike_68 : decode cX12_mostAlike 68 = .ok (.iload 6, 2) := by decide +kernel
theorem dX12_mostAlike_70 : decode cX12_mostAlike 70 = .ok (.imul, 1) := by decide +kernel
theorem dX12_mostAlike_71 : decode cX12_mostAlike 71 = .ok (.iload_n 2, 1) := by decide +kernel
theorem dX12_mostAlike_72 : decode cX12_mostAlike 72 = .ok (.iadd, 1) := by decide +kernel
theorem dX12_mostAlike_73 : decode cX12_mostAlike 73 = .ok (.iaload, 1) := by decide +kernel
theorem dX12_mostAlike_74 : decode cX12_mostAlike 74 = .ok (.bipush 100, 2) := by decide +kernel
theorem dX12_mostAlike_76 : decode cX12_mostAlike 76 = .ok (.idiv, 1) := by decide +kernel
theorem dX12_mostAlike_77 : decode cX12_mostAlike 77 = .ok (.if_icmp .ne 7, 3) := by decide +kernel
theorem dX12_mostAlike_80 : decode cX12_mostAlike 80 = .ok (.iconst 1, 1) := by decide +kernel
theorem dX12_mostAlike_81 : decode cX12_mostAlike 81 = .ok (.goto 4, 3) := by decide +kernel
theorem dX12_mostAlike_84 : decode cX12_mostAlike 84 = .ok (.iconst 0, 1) := by decide +kernel
theorem dX12_mostAlike_85 : decode cX12_mostAlike 85 = .ok (.iadd, 1) := by decide +kernel
theorem dX12_mostAlike_86 : decode cX12_mostAlike 86 = .ok (.istore 5, 2) := by decide +kernel
theorem dX12_mostAlike_88 : decode cX12_mostAlike 88 = .ok (.iinc 6 1, 3) := by decide +kernel
theorem dX12_mostAlike_91 : decode cX12_mostAlike 91 = .ok (.goto (-73), 3) := by decide +kernel
theorem dX12_mostAlike_94 : decode cX12_mostAlike 94 = .ok (.iload 5, 2) := by decide +kernel
theorem dX12_mostAlike_96 : decode cX12_mostAlike 96 = .ok (.iload_n 3, 1) := by decide +kernel
theorem dX12_mostAlike_97 : decode cX12_mostAlike 97 = .ok (.if_icmp .le 8, 3) := by decide +kernel
theorem dX12_mostAlike_100 : decode cX12_mostAlike 100 = .ok (.iload 5, 2) := by decide +kernel
theorem dX12_mostAlike_102 : decode cX12_mostAlike 102 = .ok (.goto 4, 3) := by decide +kernel
theorem dX12_mostAlike_105 : decode cX12_mostAlike 105 = .ok (.iload_n 3, 1) := by decide +kernel
theorem dX12_mostAlike_106 : decode cX12_mostAlike 106 = .ok (.istore_n 3, 1) := by decide +kernel
theorem dX12_mostAlike_107 : decode cX12_mostAlike 107 = .ok (.iinc 4 1, 3) := by decide +kernel
theorem dX12_mostAlike_110 : decode cX12_mostAlike 110 = .ok (.goto (-105), 3) := by decide +kernel
theorem dX12_mostAlike_113 : decode cX12_mostAlike 113 = .ok (.iload_n 3, 1) := by decide +kernel
theorem dX12_mostAlike_114 : decode cX12_mostAlike 114 = .ok (.ireturn, 1) := by decide +kernel
def f_X12_mostAlike_94 (m : zz_Mem) (k5 : Int32 → Int32 → Int32 → Int32 → Option Int32) (v1 : Int32) (v2 : Int32) (v3 : Int32) (v4 : Int32) (v5 : Int32) : Option Int32 :=
  if v5 ≤ v3 then (
  zz_letI (v4 + (1 : Int32)) fun x1 =>
  k5 v1 v2 v3 x1)
  else (
  zz_letI (v4 + (1 : Int32)) fun x2 =>
  k5 v1 v2 v5 x2)
theorem t_X12_mostAlike_94 {l : Launch} {G : zz_G} (hN : 26 ≤ zz_N G) {m : zz_Mem} {k5 : Int32 → Int32 → Int32 → Int32 → Option Int32} (hk5 : ∀ (v1 : Int32) (v2 : Int32) (v3 : Int32) (v4 : Int32), zz_Sim zz_shM l G mX12_mostAlike 1 zz_vIr (zz_mC m) (k5 v1 v2 v3 v4) 5 [(0, .ref (zz_a G 0)), (1, .int v1), (2, .int v2), (3, .int v3), (4, .int v4)] [] m) : ∀ (v1 : Int32) (v2 : Int32) (v3 : Int32) (v4 : Int32) (v5 : Int32), zz_Sim zz_shM l G mX12_mostAlike 1 zz_vIr (zz_mC m) (f_X12_mostAlike_94 m k5 v1 v2 v3 v4 v5) 94 [(0, .ref (zz_a G 0)), (1, .int v1), (2, .int v2), (3, .int v3), (4, .int v4), (5, .int v5)] [] m := by
  intro v1 v2 v3 v4 v5
  unfold f_X12_mostAlike_94
  refine zs_iload dX12_mostAlike_94 5 rfl ?_
  refine zs_iload_n dX12_mostAlike_96 rfl 3 rfl ?_
  refine zs_icmp_le (tgt := 105) dX12_mostAlike_97 (by decide) ?_ ?_
  · refine zs_iload_n dX12_mostAlike_105 rfl 3 rfl ?_
    refine zs_istore_n [(3, .int v3), (0, .ref (zz_a G 0)), (1, .int v1), (2, .int v2), (4, .int v4), (5, .int v5)] dX12_mostAlike_106 rfl (Nat.le_of_ble_eq_true rfl) rfl ?_
    refine zs_iinc (fun y => [(4, .int y), (3, .int v3), (0, .ref (zz_a G 0)), (1, .int v1), (2, .int v2), (5, .int v5)]) dX12_mostAlike_107 4 rfl ci_1 (Nat.le_of_ble_eq_true rfl) (fun _ => rfl) (fun x1 => ?_)
    refine zs_goto (tgt := 5) dX12_mostAlike_110 (by decide) ?_
    refine zs_sub [2, 3, 4, 1, 0] rfl ?_
    exact hk5 _ _ _ _
  · refine zs_iload dX12_mostAlike_100 5 rfl ?_
    refine zs_goto (tgt := 106) dX12_mostAlike_102 (by decide) ?_
    refine zs_istore_n [(3, .int v5), (0, .ref (zz_a G 0)), (1, .int v1), (2, .int v2), (4, .int v4), (5, .int v5)] dX12_mostAlike_106 rfl (Nat.le_of_ble_eq_true rfl) rfl ?_
    refine zs_iinc (fun y => [(4, .int y), (3, .int v5), (0, .ref (zz_a G 0)), (1, .int v1), (2, .int v2), (5, .int v5)]) dX12_mostAlike_107 4 rfl ci_1 (Nat.le_of_ble_eq_true rfl) (fun _ => rfl) (fun x2 => ?_)
    refine zs_goto (tgt := 5) dX12_mostAlike_110 (by decide) ?_
    refine zs_sub [2, 3, 4, 1, 0] rfl ?_
    exact hk5 _ _ _ _
def f_X12_mostAlike_85 (m : zz_Mem) (k5 : Int32 → Int32 → Int32 → Int32 → Option Int32) (k18 : Int32 → Int32 → Int32 → Int32 → Int32 → Int32 → Option Int32) (v1 : Int32) (v2 : Int32) (v3 : Int32) (v4 : Int32) (v6 : Int32) (s0 : Int32) (s1 : Int32) : Option Int32 :=
  zz_letI (s1 + s0) fun x1 =>
  zz_letI (v6 + (1 : Int32)) fun x2 =>
  k18 v1 v2 v3 v4 x1 x2
theorem t_X12_mostAlike_85 {l : Launch} {G : zz_G} (hN : 26 ≤ zz_N G) {m : zz_Mem} {k5 : Int32 → Int32 → Int32 → Int32 → Option Int32} {k18 : Int32 → Int32 → Int32 → Int32 → Int32 → Int32 → Option Int32} (hk5 : ∀ (v1 : Int32) (v2 : Int32) (v3 : Int32) (v4 : Int32), zz_Sim zz_shM l G mX12_mostAlike 1 zz_vIr (zz_mC m) (k5 v1 v2 v3 v4) 5 [(0, .ref (zz_a G 0)), (1, .int v1), (2, .int v2), (3, .int v3), (4, .int v4)] [] m) (hk18 : ∀ (v1 : Int32) (v2 : Int32) (v3 : Int32) (v4 : Int32) (v5 : Int32) (v6 : Int32), zz_Sim zz_shM l G mX12_mostAlike 1 zz_vIr (zz_mC m) (k18 v1 v2 v3 v4 v5 v6) 18 [(0, .ref (zz_a G 0)), (1, .int v1), (2, .int v2), (3, .int v3), (4, .int v4), (5, .int v5), (6, .int v6)] [] m) : ∀ (v1 : Int32) (v2 : Int32) (v3 : Int32) (v4 : Int32) (v6 : Int32) (s0 : Int32) (s1 : Int32), zz_Sim zz_shM l G mX12_mostAlike 1 zz_vIr (zz_mC m) (f_X12_mostAlike_85 m k5 k18 v1 v2 v3 v4 v6 s0 s1) 85 [(0, .ref (zz_a G 0)), (1, .int v1), (2, .int v2), (3, .int v3), (4, .int v4), (6, .int v6)] [.int s0, .int s1] m := by
  intro v1 v2 v3 v4 v6 s0 s1
  unfold f_X12_mostAlike_85
  refine zs_iadd dX12_mostAlike_85 ?_
  refine zs_letI (fun x1 => ?_)
  refine zs_istore [(5, .int x1), (0, .ref (zz_a G 0)), (1, .int v1), (2, .int v2), (3, .int v3), (4, .int v4), (6, .int v6)] dX12_mostAlike_86 (Nat.le_of_ble_eq_true rfl) rfl ?_
  refine zs_iinc (fun y => [(6, .int y), (5, .int x1), (0, .ref (zz_a G 0)), (1, .int v1), (2, .int v2), (3, .int v3), (4, .int v4)]) dX12_mostAlike_88 6 rfl ci_1 (Nat.le_of_ble_eq_true rfl) (fun _ => rfl) (fun x2 => ?_)
  refine zs_goto (tgt := 18) dX12_mostAlike_91 (by decide) ?_
  refine zs_sub [2, 3, 4, 5, 6, 1, 0] rfl ?_
  exact hk18 _ _ _ _ _ _
def f_X12_mostAlike_18 (m : zz_Mem) (k5 : Int32 → Int32 → Int32 → Int32 → Option Int32) : Nat → Int32 → Int32 → Int32 → Int32 → Int32 → Int32 → Option Int32
  | 0, _, _, _, _, _, _ => none
  | n + 1, v1, v2, v3, v4, v5, v6 =>
  if (10 : Int32) ≤ v6 then (
  f_X12_mostAlike_94 m k5 v1 v2 v3 v4 v5)
  else (
  zz_bndR (f_X12_isIn v1.toInt64 v4) fun r1 =>
  if r1 = 0 then (
  f_X12_mostAlike_85 m k5 (f_X12_mostAlike_18 m k5 n) v1 v2 v3 v4 v6 (0 : Int32) v5)
  else (
  zz_bndR (f_X12_isIn v1.toInt64 v6) fun r2 =>
  if r2 = 0 then (
  f_X12_mostAlike_85 m k5 (f_X12_mostAlike_18 m k5 n) v1 v2 v3 v4 v6 (0 : Int32) v5)
  else (
  zz_ix (((9 : Int32) * v4) + v2) 90 <|
  zz_ix (((9 : Int32) * v6) + v2) 90 <|
  if ((m.1 21 (((9 : Int32) * v4) + v2).toNatClampNeg) / (100 : Int32)) = ((m.1 21 (((9 : Int32) * v6) + v2).toNatClampNeg) / (100 : Int32)) then (
  f_X12_mostAlike_85 m k5 (f_X12_mostAlike_18 m k5 n) v1 v2 v3 v4 v6 (1 : Int32) v5)
  else (
  f_X12_mostAlike_85 m k5 (f_X12_mostAlike_18 m k5 n) v1 v2 v3 v4 v6 (0 : Int32) v5))))
theorem t_X12_mostAlike_18 {l : Launch} {G : zz_G} (hN : 26 ≤ zz_N G) {m : zz_Mem} {k5 : Int32 → Int32 → Int32 → Int32 → Option Int32} (hk5 : ∀ (v1 : Int32) (v2 : Int32) (v3 : Int32) (v4 : Int32), zz_Sim zz_shM l G mX12_mostAlike 1 zz_vIr (zz_mC m) (k5 v1 v2 v3 v4) 5 [(0, .ref (zz_a G 0)), (1, .int v1), (2, .int v2), (3, .int v3), (4, .int v4)] [] m) : ∀ (n : Nat) (v1 : Int32) (v2 : Int32) (v3 : Int32) (v4 : Int32) (v5 : Int32) (v6 : Int32), zz_Sim zz_shM l G mX12_mostAlike 1 zz_vIr (zz_mC m) (f_X12_mostAlike_18 m k5 n v1 v2 v3 v4 v5 v6) 18 [(0, .ref (zz_a G 0)), (1, .int v1), (2, .int v2), (3, .int v3), (4, .int v4), (5, .int v5), (6, .int v6)] [] m := by
  intro n
  induction n with
  | zero => intro _ _ _ _ _ _; exact zs_none
  | succ n ih =>
    intro v1 v2 v3 v4 v5 v6
    rw [f_X12_mostAlike_18]
    refine zs_iload dX12_mostAlike_18 6 rfl ?_
    refine zs_bipush (v := (10 : Int32)) dX12_mostAlike_20 cb_10 ?_
    refine zs_icmp_ge (tgt := 94) dX12_mostAlike_22 (by decide) ?_ ?_
    · refine zs_sub [0, 1, 2, 3, 4, 5] rfl ?_
      exact t_X12_mostAlike_94 hN hk5 _ _ _ _ _
    · refine zs_iload dX12_mostAlike_25 5 rfl ?_
      refine zs_iload_n dX12_mostAlike_27 rfl 1 rfl ?_
      refine zs_i2l dX12_mostAlike_28 ?_
      refine zs_iload dX12_mostAlike_29 4 rfl ?_
      refine zs_cS_iR (rest := [.int v5]) (k_X12_isIn hN _ _ _) dX12_mostAlike_31 ls_X12_442 ok_X12_isIn (Nat.le_of_ble_eq_true rfl) rfl rfl (Nat.le_of_ble_eq_true rfl) (fun r1 => ?_)
      refine zs_if_eq (tgt := 84) dX12_mostAlike_34 (by decide) ?_ ?_
      · refine zs_iconst (v := (0 : Int32)) dX12_mostAlike_84 ci_0 ?_
        refine zs_sub [0, 1, 2, 3, 4, 6] rfl ?_
        exact t_X12_mostAlike_85 hN hk5 ih _ _ _ _ _ _ _
      · refine zs_iload_n dX12_mostAlike_37 rfl 1 rfl ?_
        refine zs_i2l dX12_mostAlike_38 ?_
        refine zs_iload dX12_mostAlike_39 6 rfl ?_
        refine zs_cS_iR (rest := [.int v5]) (k_X12_isIn hN _ _ _) dX12_mostAlike_41 ls_X12_442 ok_X12_isIn (Nat.le_of_ble_eq_true rfl) rfl rfl (Nat.le_of_ble_eq_true rfl) (fun r2 => ?_)
        refine zs_if_eq (tgt := 84) dX12_mostAlike_44 (by decide) ?_ ?_
        · refine zs_iconst (v := (0 : Int32)) dX12_mostAlike_84 ci_0 ?_
          refine zs_sub [0, 1, 2, 3, 4, 6] rfl ?_
          exact t_X12_mostAlike_85 hN hk5 ih _ _ _ _ _ _ _
        · refine zs_aload_n dX12_mostAlike_47 rfl 0 rfl ?_
          refine zs_getR fl_X12_79 dX12_mostAlike_48 (shm_0 hN) rfl ?_
          refine zs_bipush (v := (9 : Int32)) dX12_mostAlike_51 cb_9 ?_
          refine zs_iload dX12_mostAlike_53 4 rfl ?_
          refine zs_imul dX12_mostAlike_55 ?_
          refine zs_iload_n dX12_mostAlike_56 rfl 2 rfl ?_
          refine zs_iadd dX12_mostAlike_57 ?_
          refine zs_ialdG dX12_mostAlike_58 (shm_21 hN) ?_
          refine zs_bipush (v := (100 : Int32)) dX12_mostAlike_59 cb_100 ?_
          refine zs_idiv dX12_mostAlike_61 (by decide) ?_
          refine zs_aload_n dX12_mostAlike_62 rfl 0 rfl ?_
          refine zs_getR fl_X12_79 dX12_mostAlike_63 (shm_0 hN) rfl ?_
          refine zs_bipush (v := (9 : Int32)) dX12_mostAlike_66 cb_9 ?_
          refine zs_iload dX12_mostAlike_68 6 rfl ?_
          refine zs_imul dX12_mostAlike_70 ?_
          refine zs_iload_n dX12_mostAlike_71 rfl 2 rfl ?_
          refine zs_iadd dX12_mostAlike_72 ?_
          refine zs_ialdG dX12_mostAlike_73 (shm_21 hN) ?_
          refine zs_bipush (v := (100 : Int32)) dX12_mostAlike_74 cb_100 ?_
          refine zs_idiv dX12_mostAlike_76 (by decide) ?_
          refine zs_icmp_ne (tgt := 84) dX12_mostAlike_77 (by decide) ?_ ?_
          · refine zs_iconst (v := (0 : Int32)) dX12_mostAlike_84 ci_0 ?_
            refine zs_sub [0, 1, 2, 3, 4, 6] rfl ?_
            exact t_X12_mostAlike_85 hN hk5 ih _ _ _ _ _ _ _
          · refine zs_iconst (v := (1 : Int32)) dX12_mostAlike_80 ci_1 ?_
            refine zs_goto (tgt := 85) dX12_mostAlike_81 (by decide) ?_
            refine zs_sub [0, 1, 2, 3, 4, 6] rfl ?_
            exact t_X12_mostAlike_85 hN hk5 ih _ _ _ _ _ _ _
def f_X12_mostAlike_5 (m : zz_Mem)  : Nat → Int32 → Int32 → Int32 → Int32 → Option Int32
  | 0, _, _, _, _ => none
  | n + 1, v1, v2, v3, v4 =>
  if (10 : Int32) ≤ v4 then (
  some v3)
  else (
  f_X12_mostAlike_18 m (f_X12_mostAlike_5 m n) zz_fuel v1 v2 v3 v4 (0 : Int32) (0 : Int32))
theorem t_X12_mostAlike_5 {l : Launch} {G : zz_G} (hN : 26 ≤ zz_N G) {m : zz_Mem}  : ∀ (n : Nat) (v1 : Int32) (v2 : Int32) (v3 : Int32) (v4 : Int32), zz_Sim zz_shM l G mX12_mostAlike 1 zz_vIr (zz_mC m) (f_X12_mostAlike_5 m n v1 v2 v3 v4) 5 [(0, .ref (zz_a G 0)), (1, .int v1), (2, .int v2), (3, .int v3), (4, .int v4)] [] m := by
  intro n
  induction n with
  | zero => intro _ _ _ _; exact zs_none
  | succ n ih =>
    intro v1 v2 v3 v4
    rw [f_X12_mostAlike_5]
    refine zs_iload dX12_mostAlike_5 4 rfl ?_
    refine zs_bipush (v := (10 : Int32)) dX12_mostAlike_7 cb_10 ?_
    refine zs_icmp_ge (tgt := 113) dX12_mostAlike_9 (by decide) ?_ ?_
    · refine zs_iload_n dX12_mostAlike_113 rfl 3 rfl ?_
      exact zs_iret dX12_mostAlike_114 rfl rfl rfl
    · refine zs_iconst (v := (0 : Int32)) dX12_mostAlike_12 ci_0 ?_
      refine zs_istore [(5, .int (0 : Int32)), (0, .ref (zz_a G 0)), (1, .int v1), (2, .int v2), (3, .int v3), (4, .int v4)] dX12_mostAlike_13 (Nat.le_of_ble_eq_true rfl) rfl ?_
      refine zs_iconst (v := (0 : Int32)) dX12_mostAlike_15 ci_0 ?_
      refine zs_istore [(6, .int (0 : Int32)), (5, .int (0 : Int32)), (0, .ref (zz_a G 0)), (1, .int v1), (2, .int v2), (3, .int v3), (4, .int v4)] dX12_mostAlike_16 (Nat.le_of_ble_eq_true rfl) rfl ?_
      refine zs_sub [2, 3, 4, 5, 6, 1, 0] rfl ?_
      exact t_X12_mostAlike_18 hN ih zz_fuel _ _ _ _ _ _
def f_X12_mostAlike (m : zz_Mem) (p1 : Int32) (p2 : Int32) : Option Int32 :=
  f_X12_mostAlike_5 m zz_fuel p1 p2 (0 : Int32) (0 : Int32)
theorem k_X12_mostAlike {l : Launch} {G : zz_G} (hN : 26 ≤ zz_N G) : ∀ (p1 : Int32) (p2 : Int32) (m : zz_Mem), zz_Con zz_shM l G mX12_mostAlike 1 [.ref (zz_a G 0), .int p1, .int p2] zz_vIr (zz_mC m) (f_X12_mostAlike m p1 p2) m := by
  intro p1 p2 m
  refine zz_con (lv := [(0, .ref (zz_a G 0)), (1, .int p1), (2, .int p2)]) (by decide +kernel) (Nat.le_of_ble_eq_true rfl) rfl ?_
  unfold f_X12_mostAlike
  refine zs_iconst (v := (0 : Int32)) dX12_mostAlike_0 ci_0 ?_
  refine zs_istore_n [(3, .int (0 : Int32)), (0, .ref (zz_a G 0)), (1, .int p1), (2, .int p2)] dX12_mostAlike_1 rfl (Nat.le_of_ble_eq_true rfl) rfl ?_
  refine zs_iconst (v := (0 : Int32)) dX12_mostAlike_2 ci_0 ?_
  refine zs_istore [(4, .int (0 : Int32)), (3, .int (0 : Int32)), (0, .ref (zz_a G 0)), (1, .int p1), (2, .int p2)] dX12_mostAlike_3 (Nat.le_of_ble_eq_true rfl) rfl ?_
  refine zs_sub [2, 3, 4, 1, 0] rfl ?_
  exact t_X12_mostAlike_5 hN zz_fuel _ _ _ _
/-! X12_ask: PillarDeskModel.ask(I)I -/
theorem dX12_ask_0 : decode cX12_ask 0 = .ok (.aload_n 0, 1) := by decide +kernel
theorem dX12_ask_1 : decode cX12_ask 1 = .ok (.iconst 0, 1) := by decide +kernel
theorem dX12_ask_2 : decode cX12_ask 2 = .ok (.putfield 1, 3) := by decide +kernel
theorem dX12_ask_5 : decode cX12_ask 5 = .ok (.aload_n 0, 1) := by decide +kernel
theorem dX12_ask_6 : decode cX12_ask 6 = .ok (.iload_n 1, 1) := by decide +kernel
theorem dX12_ask_7 : decode cX12_ask 7 = .ok (.invokevirtual 436, 3) := by decide +kernel
theorem dX12_ask_10 : decode cX12_ask 10 = .ok (.istore_n 2, 1) := by decide +kernel
theorem dX12_ask_11 : decode cX12_ask 11 = .ok (.iload_n 2, 1) := by decide +kernel
theorem dX12_ask_12 : decode cX12_ask 12 = .ok (.ifCond .eq 5, 3) := by decide +kernel
theorem dX12_ask_15 : decode cX12_ask 15 = .ok (.iload_n 2, 1) := by decide +kernel
theorem dX12_ask_16 : decode cX12_ask 16 = .ok (.ireturn, 1) := by decide +kernel
theorem dX12_ask_17 : decode cX12_ask 17 = .ok (.aload_n 0, 1) := by decide +kernel
theorem dX12_ask_18 : decode cX12_ask 18 = .ok (.iload_n 1, 1) := by decide +kernel
theorem dX12_ask_19 : decode cX12_ask 19 = .ok (.invokevirtual 439, 3) := by decide +kernel
theorem dX12_ask_22 : decode cX12_ask 22 = .ok (.istore_n 3, 1) := by decide +kernel
theorem dX12_ask_23 : decode cX12_ask 23 = .ok (.iconst 0, 1) := by decide +kernel
theorem dX12_ask_24 : decode cX12_ask 24 = .ok (.istore 4, 2) := by decide +kernel
theorem dX12_ask_26 : decode cX12_ask 26 = .ok (.iload 4, 2) := by decide +kernel
theorem dX12_ask_28 : decode cX12_ask 28 = .ok (.bipush 10, 2) := by decide +kernel
theorem dX12_ask_30 : decode cX12_ask 30 = .ok (.if_icmp .ge 57, 3) := by decide +kernel
theorem dX12_ask_33 : decode cX12_ask 33 = .ok (.aload_n 0, 1) := by decide +kernel
theorem dX12_ask_34 : decode cX12_ask 34 = .ok (.iload 4, 2) := by decide +kernel
theorem dX12_ask_36 : decode cX12_ask 36 = .ok (.invokevirtual 306, 3) := by decide +kernel
theorem dX12_ask_39 : decode cX12_ask 39 = .ok (.aload_n 0, 1) := by decide +kernel
theorem dX12_ask_40 : decode cX12_ask 40 = .ok (.invokevirtual 309, 3) := by decide +kernel
theorem dX12_ask_43 : decode cX12_ask 43 = .ok (.iconst 0, 1) := by decide +kernel
theorem dX12_ask_44 : decode cX12_ask 44 = .ok (.istore 5, 2) := by decide +kernel
theorem dX12_ask_46 : decode cX12_ask 46 = .ok (.iload 5, 2) := by decide +kernel
theorem dX12_ask_48 : decode cX12_ask 48 = .ok (.aload_n 0, 1) := by decide +kernel
theorem dX12_ask_49 : decode cX12_ask 49 = .ok (.getfield 272, 3) := by decide +kernel
theorem dX12_ask_52 : decode cX12_ask 52 = .ok (.if_icmp .ge 29, 3) := by decide +kernel
theorem dX12_ask_55 : decode cX12_ask 55 = .ok (.aload_n 0, 1) := by decide +kernel
theorem dX12_ask_56 : decode cX12_ask 56 = .ok (.getfield 79, 3) := by decide +kernel
theorem dX12_ask_59 : decode cX12_ask 59 = .ok (.bipush 9, 2) := by decide +kernel
theorem dX12_ask_61 : decode cX12_ask 61 = .ok (.iload 4, 2) := by decide +kernel
theorem dX12_ask_63 : decode cX12_ask 63 = .ok (.imul, 1) := by decide +kernel
theorem dX12_ask_64 : decode cX12_ask 64 = .ok (.iload 5, 2) := by decide +kernel
theorem dX12_ask_66 : decode cX12_ask 66 = .ok (.iadd, 1) := by decide +kernel
theorem dX12_ask_67 : decode cX12_ask 67 = .ok (.aload_n 0, 1) := by decide +kernel
theorem dX12_ask_68 : decode cX12_ask 68 = .ok (.getfield 57, 3) := by decide +kernel
theorem dX12_ask_71 : decode cX12_ask 71 = .ok (.iload 5, 2) := by decide +kernel
theorem dX12_ask_73 : decode cX12_ask 73 = .ok (.iaload, 1) := by decide +kernel
theorem dX12_ask_74 : decode cX12_ask 74 = .ok (.iastore, 1) := by decide +kernel
theorem dX12_ask_75 : decode cX12_ask 75 = .ok (.iinc 5 1, 3) := by decide +kernel
theorem dX12_ask_78 : decode cX12_ask 78 = .ok (.goto (-32), 3) := by decide +kernel
theorem dX12_ask_81 : decode cX12_ask 81 = .ok (.iinc 4 1, 3) := by decide +kernel
theorem dX12_ask_84 : decode cX12_ask 84 = .ok (.goto (-58), 3) := by decide +kernel
theorem dX12_ask_87 : decode cX12_ask 87 = .ok (.iconst (-1), 1) := by decide +kernel
theorem dX12_ask_88 : decode cX12_ask 88 = .ok (.istore 4, 2) := by decide +kernel
theorem dX12_ask_90 : decode cX12_ask 90 = .ok (.ldc_w 446, 3) := by decide +kernel
theorem dX12_ask_93 : decode cX12_ask 93 = .ok (.istore 5, 2) := by decide +kernel
theorem dX12_ask_95 : decode cX12_ask 95 = .ok (.iconst 0, 1) := by decide +kernel
theorem dX12_ask_96 : decode cX12_ask 96 = .ok (.istore 6, 2) := by decide +kernel
theorem dX12_ask_98 : decode cX12_ask 98 = .ok (.iload 6, 2) := by decide +kernel
theorem dX12_ask_100 : decode cX12_ask 100 = .ok (.aload_n 0, 1) := by decide +kernel
theorem dX12_ask_101 : decode cX12_ask 101 = .ok (.getfield 272, 3) := by decide +kernel
theorem dX12_ask_104 : decode cX12_ask 104 = .ok (.if_icmp .ge 45, 3) := by decide +kernel
theorem dX12_ask_107 : decode cX12_ask 107 = .ok (.iload_n 3, 1) := by decide +kernel
theorem dX12_ask_108 : decode cX12_ask 108 = .ok (.ifCond .eq 41, 3) := by decide +kernel
theorem dX12_ask_111 : decode cX12_ask 111 = .ok (.aload_n 0, 1) := by decide +kernel
theorem dX12_ask_112 : decode cX12_ask 112 = .ok (.iload_n 3, 1) := by decide +kernel
theorem dX12_ask_113 : decode cX12_ask 113 = .ok (.iload 6, 2) := by decide +kernel
theorem dX12_ask_115 : decode cX12_ask 115 = .ok (.invokevirtual 447, 3) := by decide +kernel
theorem dX12_ask_118 : decode cX12_ask 118 = .ok (.istore 7, 2) := by decide +kernel
theorem dX12_ask_120 : decode cX12_ask 120 = .ok (.iload 7, 2) := by decide +kernel
theorem dX12_ask_122 : decode cX12_ask 122 = .ok (.iload 5, 2) := by decide +kernel
theorem dX12_ask_124 : decode cX12_ask 124 = .ok (.if_icmp .lt 6, 3) := by decide +kernel
theorem dX12_ask_127 : decode cX12_ask 127 = .ok (.goto 16, 3) := by decide +kernel
theorem dX12_ask_130 : decode cX12_ask 130 = .ok (.aload_n 0, 1) := by decide +kernel
theorem dX12_ask_131 : decode cX12_ask 131 = .ok (.getfield 54, 3) := by decide +kernel
theorem dX12_ask_134 : decode cX12_ask 134 = .ok (.iload 6, 2) := by decide +kernel
theorem dX12_ask_136 : decode cX12_ask 136 = .ok (.iaload, 1) := by decide +kernel
theorem dX12_ask_137 : decode cX12_ask 137 = .ok (.istore 4, 2) := by decide +kernel
theorem dX12_ask_139 : decode cX12_ask 139 = .ok (.iload 7, 2) := by decide +kernel
theorem dX12_ask_141 : decode cX12_ask 141 = .ok (.istore 5, 2) := by decide +kernel
theorem dX12_ask_143 : decode cX12_ask 143 = .ok (.iinc 6 1, 3) := by decide +kernel
theorem dX12_ask_146 : decode cX12_ask 146 = .ok (.goto (-48), 3) := by decide +kernel
theorem dX12_ask_149 : decode cX12_ask 149 = .ok (.iload 4, 2) := by decide +kernel
theorem dX12_ask_151 : decode cX12_ask 151 = .ok (.ireturn, 1) := by decide +kernel
def f_X12_ask_98   : Nat → Int32 → Int32 → Int32 → Int32 → zz_Mem → Option (Int32 × zz_Mem)
  | 0, _, _, _, _, _ => none
  | n + 1, v3, v4, v5, v6, m =>
  if (m.1 0 28) ≤ v6 then (
  some (v4, m))
  else (
  if v3 = 0 then (
  some (v4, m))
  else (
  zz_bndR (f_X12_mostAlike m v3 v6) fun r1 =>
  if r1 < v5 then (
  zz_ix v6 9 <|
  zz_letI (m.1 13 v6.toNatClampNeg) fun x2 =>
  zz_letI (v6 + (1 : Int32)) fun x3 =>
  f_X12_ask_98 n v3 x2 r1 x3 m)
  else (
  zz_letI (v6 + (1 : Int32)) fun x4 =>
  f_X12_ask_98 n v3 v4 v5 x4 m)))
theorem t_X12_ask_98 {l : Launch} {G : zz_G} (hN : 26 ≤ zz_N G)  : ∀ (n : Nat) (v3 : Int32) (v4 : Int32) (v5 : Int32) (v6 : Int32) (m : zz_Mem), zz_Sim zz_shM l G mX12_ask 6 zz_vI zz_m2 (f_X12_ask_98 n v3 v4 v5 v6 m) 98 [(0, .ref (zz_a G 0)), (3, .int v3), (4, .int v4), (5, .int v5), (6, .int v6)] [] m := by
  intro n
  induction n with
  | zero => intro _ _ _ _ _; exact zs_none
  | succ n ih =>
    intro v3 v4 v5 v6 m
    rw [f_X12_ask_98]
    refine zs_iload dX12_ask_98 4 rfl ?_
    refine zs_aload_n dX12_ask_100 rfl 0 rfl ?_
    refine zs_getI fl_X12_272 dX12_ask_101 (shm_0 hN) rfl ?_
    refine zs_icmp_ge (tgt := 149) dX12_ask_104 (by decide) ?_ ?_
    · refine zs_iload dX12_ask_149 2 rfl ?_
      exact zs_iret dX12_ask_151 rfl rfl rfl
    · refine zs_iload_n dX12_ask_107 rfl 1 rfl ?_
      refine zs_if_eq (tgt := 149) dX12_ask_108 (by decide) ?_ ?_
      · refine zs_iload dX12_ask_149 2 rfl ?_
        exact zs_iret dX12_ask_151 rfl rfl rfl
      · refine zs_aload_n dX12_ask_111 rfl 0 rfl ?_
        refine zs_iload_n dX12_ask_112 rfl 1 rfl ?_
        refine zs_iload dX12_ask_113 4 rfl ?_
        refine zs_cV_iR (rest := []) (k_X12_mostAlike hN _ _ _) dX12_ask_115 lv_X12_447 ok_X12_mostAlike (zz_rcv_o (shm_0 hN) rfl) (Nat.le_of_ble_eq_true rfl) rfl rfl (Nat.le_of_ble_eq_true rfl) (fun r1 => ?_)
        refine zs_istore [(7, .int r1), (0, .ref (zz_a G 0)), (3, .int v3), (4, .int v4), (5, .int v5), (6, .int v6)] dX12_ask_118 (Nat.le_of_ble_eq_true rfl) rfl ?_
        refine zs_iload dX12_ask_120 0 rfl ?_
        refine zs_iload dX12_ask_122 4 rfl ?_
        refine zs_icmp_lt (tgt := 130) dX12_ask_124 (by decide) ?_ ?_
        · refine zs_aload_n dX12_ask_130 rfl 1 rfl ?_
          refine zs_getR fl_X12_54 dX12_ask_131 (shm_0 hN) rfl ?_
          refine zs_iload dX12_ask_134 5 rfl ?_
          refine zs_ialdG dX12_ask_136 (shm_13 hN) ?_
          refine zs_letI (fun x2 => ?_)
          refine zs_istore [(4, .int x2), (7, .int r1), (0, .ref (zz_a G 0)), (3, .int v3), (5, .int v5), (6, .int v6)] dX12_ask_137 (Nat.le_of_ble_eq_true rfl) rfl ?_
          refine zs_iload dX12_ask_139 1 rfl ?_
          refine zs_istore [(5, .int r1), (4, .int x2), (7, .int r1), (0, .ref (zz_a G 0)), (3, .int v3), (6, .int v6)] dX12_ask_141 (Nat.le_of_ble_eq_true rfl) rfl ?_
          refine zs_iinc (fun y => [(6, .int y), (5, .int r1), (4, .int x2), (7, .int r1), (0, .ref (zz_a G 0)), (3, .int v3)]) dX12_ask_143 5 rfl ci_1 (Nat.le_of_ble_eq_true rfl) (fun _ => rfl) (fun x3 => ?_)
          refine zs_goto (tgt := 98) dX12_ask_146 (by decide) ?_
          refine zs_sub [4, 5, 2, 1, 0] rfl ?_
          exact ih _ _ _ _ _
        · refine zs_goto (tgt := 143) dX12_ask_127 (by decide) ?_
          refine zs_iinc (fun y => [(6, .int y), (7, .int r1), (0, .ref (zz_a G 0)), (3, .int v3), (4, .int v4), (5, .int v5)]) dX12_ask_143 5 rfl ci_1 (Nat.le_of_ble_eq_true rfl) (fun _ => rfl) (fun x4 => ?_)
          refine zs_goto (tgt := 98) dX12_ask_146 (by decide) ?_
          refine zs_sub [2, 3, 4, 5, 0] rfl ?_
          exact ih _ _ _ _ _
def f_X12_ask_87   (v3 : Int32) (m : zz_Mem) : Option (Int32 × zz_Mem) :=
  f_X12_ask_98 zz_fuel v3 (-1 : Int32) (268435456 : Int32) (0 : Int32) m
theorem t_X12_ask_87 {l : Launch} {G : zz_G} (hN : 26 ≤ zz_N G)  : ∀ (v3 : Int32) (m : zz_Mem), zz_Sim zz_shM l G mX12_ask 6 zz_vI zz_m2 (f_X12_ask_87 v3 m) 87 [(0, .ref (zz_a G 0)), (3, .int v3)] [] m := by
  intro v3 m
  unfold f_X12_ask_87
  refine zs_iconst (v := (-1 : Int32)) dX12_ask_87 ci_m1 ?_
  refine zs_istore [(4, .int (-1 : Int32)), (0, .ref (zz_a G 0)), (3, .int v3)] dX12_ask_88 (Nat.le_of_ble_eq_true rfl) rfl ?_
  refine zs_ldcw (v := (268435456 : Int32)) dX12_ask_90 kc_X12_446 ?_
  refine zs_istore [(5, .int (268435456 : Int32)), (4, .int (-1 : Int32)), (0, .ref (zz_a G 0)), (3, .int v3)] dX12_ask_93 (Nat.le_of_ble_eq_true rfl) rfl ?_
  refine zs_iconst (v := (0 : Int32)) dX12_ask_95 ci_0 ?_
  refine zs_istore [(6, .int (0 : Int32)), (5, .int (268435456 : Int32)), (4, .int (-1 : Int32)), (0, .ref (zz_a G 0)), (3, .int v3)] dX12_ask_96 (Nat.le_of_ble_eq_true rfl) rfl ?_
  refine zs_sub [3, 4, 2, 1, 0] rfl ?_
  exact t_X12_ask_98 hN zz_fuel _ _ _ _ _
def f_X12_ask_46  (k26 : Int32 → Int32 → zz_Mem → Option (Int32 × zz_Mem)) : Nat → Int32 → Int32 → Int32 → zz_Mem → Option (Int32 × zz_Mem)
  | 0, _, _, _, _ => none
  | n + 1, v3, v4, v5, m =>
  if (m.1 0 28) ≤ v5 then (
  zz_letI (v4 + (1 : Int32)) fun x1 =>
  k26 v3 x1 m)
  else (
  zz_ix v5 9 <|
  zz_ix (((9 : Int32) * v4) + v5) 90 <| zz_letM (zz_setI m 21 (((9 : Int32) * v4) + v5).toNatClampNeg (m.1 14 v5.toNatClampNeg)) fun m2 =>
  zz_letI (v5 + (1 : Int32)) fun x3 =>
  f_X12_ask_46 k26 n v3 v4 x3 m2)
theorem t_X12_ask_46 {l : Launch} {G : zz_G} (hN : 26 ≤ zz_N G) {k26 : Int32 → Int32 → zz_Mem → Option (Int32 × zz_Mem)} (hk26 : ∀ (v3 : Int32) (v4 : Int32) (m : zz_Mem), zz_Sim zz_shM l G mX12_ask 6 zz_vI zz_m2 (k26 v3 v4 m) 26 [(0, .ref (zz_a G 0)), (3, .int v3), (4, .int v4)] [] m) : ∀ (n : Nat) (v3 : Int32) (v4 : Int32) (v5 : Int32) (m : zz_Mem), zz_Sim zz_shM l G mX12_ask 6 zz_vI zz_m2 (f_X12_ask_46 k26 n v3 v4 v5 m) 46 [(0, .ref (zz_a G 0)), (3, .int v3), (4, .int v4), (5, .int v5)] [] m := by
  intro n
  induction n with
  | zero => intro _ _ _ _; exact zs_none
  | succ n ih =>
    intro v3 v4 v5 m
    rw [f_X12_ask_46]
    refine zs_iload dX12_ask_46 3 rfl ?_
    refine zs_aload_n dX12_ask_48 rfl 0 rfl ?_
    refine zs_getI fl_X12_272 dX12_ask_49 (shm_0 hN) rfl ?_
    refine zs_icmp_ge (tgt := 81) dX12_ask_52 (by decide) ?_ ?_
    · refine zs_iinc (fun y => [(4, .int y), (0, .ref (zz_a G 0)), (3, .int v3), (5, .int v5)]) dX12_ask_81 2 rfl ci_1 (Nat.le_of_ble_eq_true rfl) (fun _ => rfl) (fun x1 => ?_)
      refine zs_goto (tgt := 26) dX12_ask_84 (by decide) ?_
      refine zs_sub [1, 2, 0] rfl ?_
      exact hk26 _ _ _
    · refine zs_aload_n dX12_ask_55 rfl 0 rfl ?_
      refine zs_getR fl_X12_79 dX12_ask_56 (shm_0 hN) rfl ?_
      refine zs_bipush (v := (9 : Int32)) dX12_ask_59 cb_9 ?_
      refine zs_iload dX12_ask_61 2 rfl ?_
      refine zs_imul dX12_ask_63 ?_
      refine zs_iload dX12_ask_64 3 rfl ?_
      refine zs_iadd dX12_ask_66 ?_
      refine zs_aload_n dX12_ask_67 rfl 0 rfl ?_
      refine zs_getR fl_X12_57 dX12_ask_68 (shm_0 hN) rfl ?_
      refine zs_iload dX12_ask_71 3 rfl ?_
      refine zs_ialdG dX12_ask_73 (shm_14 hN) ?_
      refine zs_iastG dX12_ask_74 (shm_21 hN) (fun m2 => ?_)
      refine zs_iinc (fun y => [(5, .int y), (0, .ref (zz_a G 0)), (3, .int v3), (4, .int v4)]) dX12_ask_75 3 rfl ci_1 (Nat.le_of_ble_eq_true rfl) (fun _ => rfl) (fun x3 => ?_)
      refine zs_goto (tgt := 46) dX12_ask_78 (by decide) ?_
      refine zs_sub [1, 2, 3, 0] rfl ?_
      exact ih _ _ _ _
def f_X12_ask_26   : Nat → Int32 → Int32 → zz_Mem → Option (Int32 × zz_Mem)
  | 0, _, _, _ => none
  | n + 1, v3, v4, m =>
  if (10 : Int32) ≤ v4 then (
  f_X12_ask_87 v3 m)
  else (
  zz_bndR (f_X12_laysCounts v4 m) fun m1 =>
  zz_bndR (f_X12_laysPillars m1) fun m2 =>
  f_X12_ask_46 (f_X12_ask_26 n) zz_fuel v3 v4 (0 : Int32) m2)
theorem t_X12_ask_26 {l : Launch} {G : zz_G} (hN : 26 ≤ zz_N G)  : ∀ (n : Nat) (v3 : Int32) (v4 : Int32) (m : zz_Mem), zz_Sim zz_shM l G mX12_ask 6 zz_vI zz_m2 (f_X12_ask_26 n v3 v4 m) 26 [(0, .ref (zz_a G 0)), (3, .int v3), (4, .int v4)] [] m := by
  intro n
  induction n with
  | zero => intro _ _ _; exact zs_none
  | succ n ih =>
    intro v3 v4 m
    rw [f_X12_ask_26]
    refine zs_iload dX12_ask_26 2 rfl ?_
    refine zs_bipush (v := (10 : Int32)) dX12_ask_28 cb_10 ?_
    refine zs_icmp_ge (tgt := 87) dX12_ask_30 (by decide) ?_ ?_
    · refine zs_sub [0, 1] rfl ?_
      exact t_X12_ask_87 hN _ _
    · refine zs_aload_n dX12_ask_33 rfl 0 rfl ?_
      refine zs_iload dX12_ask_34 2 rfl ?_
      refine zs_cV_vW (rest := []) (k_X12_laysCounts hN _ _) dX12_ask_36 lv_X12_306 ok_X12_laysCounts (zz_rcv_o (shm_0 hN) rfl) (Nat.le_of_ble_eq_true rfl) rfl rfl (Nat.le_of_ble_eq_true rfl) (fun m1 => ?_)
      refine zs_aload_n dX12_ask_39 rfl 0 rfl ?_
      refine zs_cV_vW (rest := []) (k_X12_laysPillars hN  _) dX12_ask_40 lv_X12_309 ok_X12_laysPillars (zz_rcv_o (shm_0 hN) rfl) (Nat.le_of_ble_eq_true rfl) rfl rfl (Nat.le_of_ble_eq_true rfl) (fun m2 => ?_)
      refine zs_iconst (v := (0 : Int32)) dX12_ask_43 ci_0 ?_
      refine zs_istore [(5, .int (0 : Int32)), (0, .ref (zz_a G 0)), (3, .int v3), (4, .int v4)] dX12_ask_44 (Nat.le_of_ble_eq_true rfl) rfl ?_
      refine zs_sub [1, 2, 3, 0] rfl ?_
      exact t_X12_ask_46 hN ih zz_fuel _ _ _ _
def f_X12_ask  (p1 : Int32) (m : zz_Mem) : Option (Int32 × zz_Mem) :=
  zz_letM (zz_setI m 0 0 (0 : Int32)) fun m1 =>
  zz_bndR (f_X12_noTold m1 p1) fun r2 =>
  if r2 = 0 then (
  zz_bnd (f_X12_shiftsOf p1 m1) fun r3 m4 =>
  f_X12_ask_26 zz_fuel r3 (0 : Int32) m4)
  else (
  some (r2, m1))
theorem k_X12_ask {l : Launch} {G : zz_G} (hN : 26 ≤ zz_N G) : ∀ (p1 : Int32) (m : zz_Mem), zz_Con zz_shM l G mX12_ask 6 [.ref (zz_a G 0), .int p1] zz_vI zz_m2 (f_X12_ask p1 m) m := by
  intro p1 m
  refine zz_con (lv := [(0, .ref (zz_a G 0)), (1, .int p1)]) (by decide +kernel) (Nat.le_of_ble_eq_true rfl) rfl ?_
  unfold f_X12_ask
  refine zs_aload_n dX12_ask_0 rfl 0 rfl ?_
  refine zs_iconst (v := (0 : Int32)) dX12_ask_1 ci_0 ?_
  refine zs_putI fl_X12_1 dX12_ask_2 (shm_0 hN) rfl ⟨rfl, rfl⟩ (fun m1 => ?_)
  refine zs_aload_n dX12_ask_5 rfl 0 rfl ?_
  refine zs_iload_n dX12_ask_6 rfl 1 rfl ?_
  refine zs_cV_iR (rest := []) (k_X12_noTold hN _ _) dX12_ask_7 lv_X12_436 ok_X12_noTold (zz_rcv_o (shm_0 hN) rfl) (Nat.le_of_ble_eq_true rfl) rfl rfl (Nat.le_of_ble_eq_true rfl) (fun r2 => ?_)
  refine zs_istore_n [(2, .int r2), (0, .ref (zz_a G 0)), (1, .int p1)] dX12_ask_10 rfl (Nat.le_of_ble_eq_true rfl) rfl ?_
  refine zs_iload_n dX12_ask_11 rfl 0 rfl ?_
  refine zs_if_eq (tgt := 17) dX12_ask_12 (by decide) ?_ ?_
  · refine zs_aload_n dX12_ask_17 rfl 1 rfl ?_
    refine zs_iload_n dX12_ask_18 rfl 2 rfl ?_
    refine zs_cV_iW (rest := []) (k_X12_shiftsOf hN _ _) dX12_ask_19 lv_X12_439 ok_X12_shiftsOf (zz_rcv_o (shm_0 hN) rfl) (Nat.le_of_ble_eq_true rfl) rfl rfl (Nat.le_of_ble_eq_true rfl) (fun r3 m4 => ?_)
    refine zs_istore_n [(3, .int r3), (2, .int r2), (0, .ref (zz_a G 0)), (1, .int p1)] dX12_ask_22 rfl (Nat.le_of_ble_eq_true rfl) rfl ?_
    refine zs_iconst (v := (0 : Int32)) dX12_ask_23 ci_0 ?_
    refine zs_istore [(4, .int (0 : Int32)), (3, .int r3), (2, .int r2), (0, .ref (zz_a G 0)), (1, .int p1)] dX12_ask_24 (Nat.le_of_ble_eq_true rfl) rfl ?_
    refine zs_sub [3, 1, 0] rfl ?_
    exact t_X12_ask_26 hN zz_fuel _ _ _
  · refine zs_iload_n dX12_ask_15 rfl 0 rfl ?_
    exact zs_iret dX12_ask_16 rfl rfl rfl
/-! X12_goesLots: PillarDeskModel.goesLots(IIJIJ)V -/
theorem dX12_goesLots_0 : decode cX12_goesLots 0 = .ok (.iload_n 1, 1) := by decide +kernel
theorem dX12_goesLots_1 : decode cX12_goesLots 1 = .ok (.aload_n 0, 1) := by decide +kernel
theorem dX12_goesLots_2 : decode cX12_goesLots 2 = .ok (.getfield 13, 3) := by decide +kernel
theorem dX12_goesLots_5 : decode cX12_goesLots 5 = .ok (.iconst 4, 1) := by decide +kernel
theorem dX12_goesLots_6 : decode cX12_goesLots 6 = .ok (.iaload, 1) := by decide +kernel
theorem dX12_goesLots_7 : decode cX12_goesLots 7 = .ok (.if_icmp .ne 147, 3) := by decide +kernel
theorem dX12_goesLots_10 : decode cX12_goesLots 10 = .ok (.aload_n 0, 1) := by decide +kernel
theorem dX12_goesLots_11 : decode cX12_goesLots 11 = .ok (.aload_n 0, 1) := by decide +kernel
theorem dX12_goesLots_12 : decode cX12_goesLots 12 = .ok (.getfield 13, 3) := by decide +kernel
theorem dX12_goesLots_15 : decode cX12_goesLots 15 = .ok (.bipush 74, 2) := by decide +kernel
theorem dX12_goesLots_17 : decode cX12_goesLots 17 = .ok (.iaload, 1) := by decide +kernel
theorem dX12_goesLots_18 : decode cX12_goesLots 18 = .ok (.invokevirtual 306, 3) := by decide +kernel
theorem dX12_goesLots_21 : decode cX12_goesLots 21 = .ok (.iconst 0, 1) := by decide +kernel
theorem dX12_goesLots_22 : decode cX12_goesLots 22 = .ok (.istore 8, 2) := by decide +kernel
theorem dX12_goesLots_24 : decode cX12_goesLots 24 = .ok (.iload 8, 2) := by decide +kernel
theorem dX12_goesLots_26 : decode cX12_goesLots 26 = .ok (.aload_n 0, 1) := by decide +kernel
theorem dX12_goesLots_27 : decode cX12_goesLots 27 = .ok (.getfield 13, 3) := by decide +kernel
theorem dX12_goesLots_30 : decode cX12_goesLots 30 = .ok (.iconst 4, 1) := by decide +kernel
theorem dX12_goesLots_31 : decode cX12_goesLots 31 = .ok (.iaload, 1) := by decide +kernel
theorem dX12_goesLots_32 : decode cX12_goesLots 32 = .ok (.if_icmp .ge 40, 3) := by decide +kernel
theorem dX12_goesLots_35 : decode cX12_goesLots 35 = .ok (.aload_n 0, 1) := by decide +kernel
theorem dX12_goesLots_36 : decode cX12_goesLots 36 = .ok (.getfield 51, 3) := by decide +kernel
theorem dX12_goesLots_39 : decode cX12_goesLots 39 = .ok (.iload 8, 2) := by decide +kernel
theorem dX12_goesLots_41 : decode cX12_goesLots 41 = .ok (.aload_n 0, 1) := by decide +kernel
theorem dX12_goesLots_42 : decode cX12_goesLots 42 = .ok (.getfield 51, 3) := by decide +kernel
theorem dX12_goesLots_45 : decode cX12_goesLots 45 = .ok (.iload 8, 2) := by decide +kernel
theorem dX12_goesLots_47 : decode cX12_goesLots 47 = .ok (.iaload, 1) := by decide +kernel
theorem dX12_goesLots_48 : decode cX12_goesLots 48 = .ok (.iload_n 2, 1) := by decide +kernel
theorem dX12_goesLots_49 : decode cX12_goesLots 49 = .ok (.aload_n 0, 1) := by decide +kernel
theorem dX12_goesLots_50 : decode cX12_goesLots 50 = .ok (.getfield 82, 3) := by decide +kernel
theorem dX12_goesLots_53 : decode cX12_goesLots 53 = .ok (.iload 8, 2) := by decide +kernel
theorem dX12_goesLots_55 : decode cX12_goesLots 55 = .ok (.iaload, 1) := by decide +kernel
theorem dX12_goesLots_56 : decode cX12_goesLots 56 = .ok (.imul, 1) := by decide +kernel
theorem dX12_goesLots_57 : decode cX12_goesLots 57 = .ok (.iadd, 1) := by decide +kernel
theorem dX12_goesLots_58 : decode cX12_goesLots 58 = .ok (.iconst 0, 1) := by decide +kernel
theorem dX12_goesLots_59 : decode cX12_goesLots 59 = .ok (.sipush 999, 3) := by decide +kernel
theorem dX12_goesLots_62 : decode cX12_goesLots 62 = .ok (.invokestatic 266, 3) := by decide +kernel
theorem dX12_goesLots_65 : decode cX12_goesLots 65 = .ok (.iastore, 1) := by decide +kernel
theorem dX12_goesLots_66 : decode cX12_goesLots 66 = .ok (.iinc 8 1, 3) := by decide +kernel
theorem dX12_goesLots_69 : decode cX12_goesLots 69 = .ok (.goto (-45), 3) := by decide +kernel
theorem dX12_goesLots_72 : decode cX12_goesLots 72 = .ok (.aload_n 0, 1) := by decide +kernel
theorem dX12_goesLots_73 : decode cX12_goesLots 73 = .ok (.invokevirtual 309, 3) := by decide +kernel
theorem dX12_goesLots_76 : decode cX12_goesLots 76 = .ok (.lload 6, 2) := by decide +kernel
theorem dX12_goesLots_78 : decode cX12_goesLots 78 = .ok (.lstore 8, 2) := by decide +kernel
theorem dX12_goesLots_80 : decode cX12_goesLots 80 = .ok (.iconst 0, 1) := by decide +kernel
theorem dX12_goesLots_81 : decode cX12_goesLots 81 = .ok (.istore 10, 2) := by decide +kernel
theorem dX12_goesLots_83 : decode cX12_goesLots 83 = .ok (.iload 10, 2) := by decide +kernel
theorem dX12_goesLots_85 : decode cX12_goesLots 85 = .ok (.iload 5, 2) := by decide +kernel
theorem dX12_goesLots_87 : decode cX12_goesLots 87 = .ok (.if_icmp .ge 24, 3) := by decide +kernel
theorem dX12_goesLots_90 : decode cX12_goesLots 90 = .ok (.lload 8, 2) := by decide +kernel
theorem dX12_goesLots_92 : decode cX12_goesLots 92 = .ok (.bipush 10, 2) := by decide +kernel
theorem dX12_goesLots_94 : decode cX12_goesLots 94 = .ok (.aload_n 0, 1) := by decide +kernel
theorem dX12_goesLots_95 : decode cX12_goesLots 95 = .ok (.getfield 13, 3) := by decide +kernel
theorem dX12_goesLots_98 : decode cX12_goesLots 98 = .ok (.iconst 4, 1) := by decide +kernel
theorem dX12_goesLots_99 : decode cX12_goesLots 99 = .ok (.iaload, 1) := by decide +kernel
theorem dX12_goesLots_100 : decode cX12_goesLots 100 = .ok (.isub, 1) := by decide +kernel
theorem dX12_goesLots_101 : decode cX12_goesLots 101 = .ok (.i2l, 1) := by decide +kernel
theorem dX12_goesLots_102 : decode cX12_goesLots 102 = .ok (.lmul, 1) := by decide +kernel
theorem dX12_goesLots_103 : decode cX12_goesLots 103 = .ok (.lstore 8, 2) := by decide +kernel
theorem dX12_goesLots_105 : decode cX12_goesLots 105 = .ok (.iinc 10 1, 3) := by decide +kernel
theorem dX12_goesLots_108 : decode cX12_goesLots 108 = .ok (.goto (-25), 3) := by decide +kernel
theorem dX12_goesLots_111 : decode cX12_goesLots 111 = .ok (.aload_n 0, 1) := by decide +kernel
theorem dX12_goesLots_112 : decode cX12_goesLots 112 = .ok (.invokevirtual 401, 3) := by decide +kernel
theorem dX12_goesLots_115 : decode cX12_goesLots 115 = .ok (.lstore 10, 2) := by decide +kernel
theorem dX12_goesLots_117 : decode cX12_goesLots 117 = .ok (.aload_n 0, 1) := by decide +kernel
theorem dX12_goesLots_118 : decode cX12_goesLots 118 = .ok (.dup, 1) := by decide +kernel
theorem dX12_goesLots_119 : decode cX12_goesLots 119 = .ok (.getfield 450, 3) := by decide +kernel
theorem dX12_goesLots_122 : decode cX12_goesLots 122 = .ok (.lload 10, 2) := by decide +kernel
theorem dX12_goesLots_124 : decode cX12_goesLots 124 = .ok (.lload_n 3, 1) := by decide +kernel
theorem dX12_goesLots_125 : decode cX12_goesLots 125 = .ok (.lcmp, 1) := by decide +kernel
theorem dX12_goesLots_126 : decode cX12_goesLots 126 = .ok (.ifCond .ge 8, 3) := by decide +kernel
theorem dX12_goesLots_129 : decode cX12_goesLots 129 = .ok (.lload 8, 2) := by decide +kernel
theorem dX12_goesLots_131 : decode cX12_goesLots 131 = .ok (.goto 4, 3) := by decide +kernel
theorem dX12_goesLots_134 : decode cX12_goesLots 134 = .ok (.lconst 0, 1) := by decide +kernel
theorem dX12_goesLots_135 : decode cX12_goesLots 135 = .ok (.ladd, 1) := by decide +kernel
theorem dX12_goesLots_136 : decode cX12_goesLots 136 = .ok (.putfield 450, 3) := by decide +kernel
theorem dX12_goesLots_139 : decode cX12_goesLots 139 = .ok (.aload_n 0, 1) := by decide +kernel
theorem dX12_goesLots_140 : decode cX12_goesLots 140 = .ok (.dup, 1) := by decide +kernel
theorem dX12_goesLots_141 : decode cX12_goesLots 141 = .ok (.getfield 454, 3) := by decide +kernel
theorem dX12_goesLots_144 : decode cX12_goesLots 144 = .ok (.lload 8, 2) := by decide +kernel
theorem dX12_goesLots_146 : decode cX12_goesLots 146 = .ok (.lload 10, 2) := by decide +kernel
theorem dX12_goesLots_148 : decode cX12_goesLots 148 = .ok (.lmul, 1) := by decide +kernel
theorem dX12_goesLots_149 : decode cX12_goesLots 149 = .ok (.ladd, 1) := by decide +kernel
theorem dX12_goesLots_150 : decode cX12_goesLots 150 = .ok (.putfield 454, 3) := by decide +kernel
theorem dX12_goesLots_153 : decode cX12_goesLots 153 = .ok (.return_, 1) := by decide +kernel
theorem dX12_goesLots_154 : decode cX12_goesLots 154 = .ok (.lconst 1, 1) := by decide +kernel
theorem dX12_goesLots_155 : decode cX12_goesLots 155 = .ok (.lstore 8, 2) := by decide +kernel
theorem dX12_goesLots_157 : decode cX12_goesLots 157 = .ok (.iconst 0, 1) := by decide +kernel
theorem dX12_goesLots_158 : decode cX12_goesLots 158 = .ok (.istore 10, 2) := by decide +kernel
theorem dX12_goesLots_160 : decode cX12_goesLots 160 = .ok (.iload 10, 2) := by decide +kernel
theorem dX12_goesLots_162 : decode cX12_goesLots 162 = .ok (.iload 5, 2) := by decide +kernel
theorem dX12_goesLots_164 : decode cX12_goesLots 164 = .ok (.if_icmp .gt 53, 3) := by decide +kernel
theorem dX12_goesLots_167 : decode cX12_goesLots 167 = .ok (.aload_n 0, 1) := by decide +kernel
theorem dX12_goesLots_168 : decode cX12_goesLots 168 = .ok (.getfield 82, 3) := by decide +kernel
theorem dX12_goesLots_171 : decode cX12_goesLots 171 = .ok (.iload_n 1, 1) := by decide +kernel
theorem dX12_goesLots_172 : decode cX12_goesLots 172 = .ok (.iload 10, 2) := by decide +kernel
theorem dX12_goesLots_174 : decode cX12_goesLots 174 = .ok (.iastore, 1) := by decide +kernel
theorem dX12_goesLots_175 : decode cX12_goesLots 175 = .ok (.aload_n 0, 1) := by decide +kernel
theorem dX12_goesLots_176 : decode cX12_goesLots 176 = .ok (.iload_n 1, 1) := by decide +kernel
theorem dX12_goesLots_177 : decode cX12_goesLots 177 = .ok (.iconst 1, 1) := by decide +kernel
theorem dX12_goesLots_178 : decode cX12_goesLots 178 = .ok (.iadd, 1) := by decide +kernel
theorem dX12_goesLots_179 : decode cX12_goesLots 179 = .ok (.iload_n 2, 1) := by decide +kernel
theorem dX12_goesLots_180 : decode cX12_goesLots 180 = .ok (.lload_n 3, 1) := by decide +kernel
theorem dX12_goesLots_181 : decode cX12_goesLots 181 = .ok (.iload 5, 2) := by decide +kernel
theorem dX12_goesLots_183 : decode cX12_goesLots 183 = .ok (.iload 10, 2) := by decide +kernel
theorem dX12_goesLots_185 : decode cX12_goesLots 185 = .ok (.isub, 1) := by decide +kernel
theorem dX12_goesLots_186 : decode cX12_goesLots 186 = .ok (.lload 6, 2) := by decide +kernel
theorem dX12_goesLots_188 : decode cX12_goesLots 188 = .ok (.lload 8, 2) := by decide +kernel
theorem dX12_goesLots_190 : decode cX12_goesLots 190 = .ok (.lmul, 1) := by decide +kernel
theorem dX12_goesLots_191 : decode cX12_goesLots 191 = .ok (.invokevirtual 457, 3) := by decide +kernel
theorem dX12_goesLots_194 : decode cX12_goesLots 194 = .ok (.lload 8, 2) := by decide +kernel
theorem dX12_goesLots_196 : decode cX12_goesLots 196 = .ok (.iload 5, 2) := by decide +kernel
theorem dX12_goesLots_198 : decode cX12_goesLots 198 = .ok (.iload 10, 2) := by decide +kernel
theorem dX12_goesLots_200 : decode cX12_goesLots 200 = .ok (.isub, 1) := by decide +kernel
theorem dX12_goesLots_201 : decode cX12_goesLots 201 = .ok (.i2l, 1) := by decide +kernel
theorem dX12_goesLots_202 : decode cX12_goesLots 202 = .ok (.lmul, 1) := by decide +kernel
theorem dX12_goesLots_203 : decode cX12_goesLots 203 = .ok (.iload 10, 2) := by decide +kernel
theorem dX12_goesLots_205 : decode cX12_goesLots 205 = .ok (.iconst 1, 1) := by decide +kernel
theorem dX12_goesLots_206 : decode cX12_goesLots 206 = .ok (.iadd, 1) := by decide +kernel
theorem dX12_goesLots_207 : decode cX12_goesLots 207 = .ok (.i2l, 1) := by decide +kernel
theorem dX12_goesLots_208 : decode cX12_goesLots 208 = .ok (.ldiv, 1) := by decide +kernel
theorem dX12_goesLots_209 : decode cX12_goesLots 209 = .ok (.lstore 8, 2) := by decide +kernel
theorem dX12_goesLots_211 : decode cX12_goesLots 211 = .ok (.iinc 10 1, 3) := by decide +kernel
theorem dX12_goesLots_214 : decode cX12_goesLots 214 = .ok (.goto (-54), 3) := by decide +kernel
theorem dX12_goesLots_217 : decode cX12_goesLots 217 = .ok (.return_, 1) := by decide +kernel
def f_X12_goesLots_135 (g : Nat → Int32 → Int32 → Int64 → Int32 → Int64 → zz_Mem → Option zz_Mem)  (v8 : Int64) (v10 : Int64) (s0 : Int64) (s1 : Int64) (m : zz_Mem) : Option zz_Mem :=
  zz_letM (zz_setJ m 0 37 (s1 + s0)) fun m1 =>
  zz_letM (zz_setJ m1 0 38 ((m1.2.1 0 38) + (v8 * v10))) fun m2 =>
  some m2
theorem t_X12_goesLots_135 {l : Launch} {G : zz_G} (hN : 26 ≤ zz_N G) {g : Nat → Int32 → Int32 → Int64 → Int32 → Int64 → zz_Mem → Option zz_Mem} {d : Nat} (hd0 : 5 ≤ d) (hg0 : ∀ (q1 : Int32) (q2 : Int32) (q3 : Int64) (q4 : Int32) (q5 : Int64) (m : zz_Mem), zz_Con zz_shM l G mX12_goesLots d [.ref (zz_a G 0), .int q1, .int q2, .long q3, .int q4, .long q5] zz_vV zz_mV (g 0 q1 q2 q3 q4 q5 m) m)  : ∀ (v8 : Int64) (v10 : Int64) (s0 : Int64) (s1 : Int64) (m : zz_Mem), zz_Sim zz_shM l G mX12_goesLots (d + 1) zz_vV zz_mV (f_X12_goesLots_135 g v8 v10 s0 s1 m) 135 [(0, .ref (zz_a G 0)), (8, .long v8), (10, .long v10)] [.long s0, .long s1, .ref (zz_a G 0)] m := by
  intro v8 v10 s0 s1 m
  unfold f_X12_goesLots_135
  refine zs_ladd dX12_goesLots_135 ?_
  refine zs_putJ fl_X12_450 dX12_goesLots_136 (shm_0 hN) rfl ⟨rfl, rfl⟩ (fun m1 => ?_)
  refine zs_aload_n dX12_goesLots_139 rfl 0 rfl ?_
  refine zs_dup dX12_goesLots_140 rfl ?_
  refine zs_getJ fl_X12_454 dX12_goesLots_141 (shm_0 hN) rfl ?_
  refine zs_lload dX12_goesLots_144 1 rfl ?_
  refine zs_lload dX12_goesLots_146 2 rfl ?_
  refine zs_lmul dX12_goesLots_148 ?_
  refine zs_ladd dX12_goesLots_149 ?_
  refine zs_putJ fl_X12_454 dX12_goesLots_150 (shm_0 hN) rfl ⟨rfl, rfl⟩ (fun m2 => ?_)
  exact zs_vret dX12_goesLots_153 rfl rfl rfl
def f_X12_goesLots_111 (g : Nat → Int32 → Int32 → Int64 → Int32 → Int64 → zz_Mem → Option zz_Mem)  (v3 : Int64) (v8 : Int64) (m : zz_Mem) : Option zz_Mem :=
  zz_bndR (f_X12_worthBy m) fun r1 =>
  if v3 ≤ r1 then (
  f_X12_goesLots_135 g v8 r1 (0 : Int64) (m.2.1 0 37) m)
  else (
  f_X12_goesLots_135 g v8 r1 v8 (m.2.1 0 37) m)
theorem t_X12_goesLots_111 {l : Launch} {G : zz_G} (hN : 26 ≤ zz_N G) {g : Nat → Int32 → Int32 → Int64 → Int32 → Int64 → zz_Mem → Option zz_Mem} {d : Nat} (hd0 : 5 ≤ d) (hg0 : ∀ (q1 : Int32) (q2 : Int32) (q3 : Int64) (q4 : Int32) (q5 : Int64) (m : zz_Mem), zz_Con zz_shM l G mX12_goesLots d [.ref (zz_a G 0), .int q1, .int q2, .long q3, .int q4, .long q5] zz_vV zz_mV (g 0 q1 q2 q3 q4 q5 m) m)  : ∀ (v3 : Int64) (v8 : Int64) (m : zz_Mem), zz_Sim zz_shM l G mX12_goesLots (d + 1) zz_vV zz_mV (f_X12_goesLots_111 g v3 v8 m) 111 [(0, .ref (zz_a G 0)), (3, .long v3), (8, .long v8)] [] m := by
  intro v3 v8 m
  unfold f_X12_goesLots_111
  refine zs_aload_n dX12_goesLots_111 rfl 0 rfl ?_
  refine zs_cV_jR (rest := []) (k_X12_worthBy hN  _) dX12_goesLots_112 lv_X12_401 ok_X12_worthBy (zz_rcv_o (shm_0 hN) rfl) (by omega) rfl rfl (Nat.le_of_ble_eq_true rfl) (fun r1 => ?_)
  refine zs_lstore [(10, .long r1), (0, .ref (zz_a G 0)), (3, .long v3), (8, .long v8)] dX12_goesLots_115 (Nat.le_of_ble_eq_true rfl) rfl ?_
  refine zs_aload_n dX12_goesLots_117 rfl 1 rfl ?_
  refine zs_dup dX12_goesLots_118 rfl ?_
  refine zs_getJ fl_X12_450 dX12_goesLots_119 (shm_0 hN) rfl ?_
  refine zs_lload dX12_goesLots_122 0 rfl ?_
  refine zs_lload_n dX12_goesLots_124 rfl 2 rfl ?_
  refine zs_lcmp_ge (tgt := 134) dX12_goesLots_125 dX12_goesLots_126 (by decide) ?_ ?_
  · refine zs_lconst (v := (0 : Int64)) dX12_goesLots_134 rfl ?_
    refine zs_sub [1, 3, 0] rfl ?_
    exact t_X12_goesLots_135 hN hd0 hg0 _ _ _ _ _
  · refine zs_lload dX12_goesLots_129 3 rfl ?_
    refine zs_goto (tgt := 135) dX12_goesLots_131 (by decide) ?_
    refine zs_sub [1, 3, 0] rfl ?_
    exact t_X12_goesLots_135 hN hd0 hg0 _ _ _ _ _
def f_X12_goesLots_83 (g : Nat → Int32 → Int32 → Int64 → Int32 → Int64 → zz_Mem → Option zz_Mem)  : Nat → Int64 → Int32 → Int64 → Int32 → zz_Mem → Option zz_Mem
  | 0, _, _, _, _, _ => none
  | n + 1, v3, v5, v8, v10, m =>
  if v5 ≤ v10 then (
  f_X12_goesLots_111 g v3 v8 m)
  else (
  zz_letJ (v8 * (((10 : Int32) - (m.1 1 4)).toInt64)) fun y1 =>
  zz_letI (v10 + (1 : Int32)) fun x2 =>
  f_X12_goesLots_83 g n v3 v5 y1 x2 m)
theorem t_X12_goesLots_83 {l : Launch} {G : zz_G} (hN : 26 ≤ zz_N G) {g : Nat → Int32 → Int32 → Int64 → Int32 → Int64 → zz_Mem → Option zz_Mem} {d : Nat} (hd0 : 5 ≤ d) (hg0 : ∀ (q1 : Int32) (q2 : Int32) (q3 : Int64) (q4 : Int32) (q5 : Int64) (m : zz_Mem), zz_Con zz_shM l G mX12_goesLots d [.ref (zz_a G 0), .int q1, .int q2, .long q3, .int q4, .long q5] zz_vV zz_mV (g 0 q1 q2 q3 q4 q5 m) m)  : ∀ (n : Nat) (v3 : Int64) (v5 : Int32) (v8 : Int64) (v10 : Int32) (m : zz_Mem), zz_Sim zz_shM l G mX12_goesLots (d + 1) zz_vV zz_mV (f_X12_goesLots_83 g n v3 v5 v8 v10 m) 83 [(0, .ref (zz_a G 0)), (3, .long v3), (5, .int v5), (8, .long v8), (10, .int v10)] [] m := by
  intro n
  induction n with
  | zero => intro _ _ _ _ _; exact zs_none
  | succ n ih =>
    intro v3 v5 v8 v10 m
    rw [f_X12_goesLots_83]
    refine zs_iload dX12_goesLots_83 4 rfl ?_
    refine zs_iload dX12_goesLots_85 2 rfl ?_
    refine zs_icmp_ge (tgt := 111) dX12_goesLots_87 (by decide) ?_ ?_
    · refine zs_sub [0, 1, 3] rfl ?_
      exact t_X12_goesLots_111 hN hd0 hg0 _ _ _
    · refine zs_lload dX12_goesLots_90 3 rfl ?_
      refine zs_bipush (v := (10 : Int32)) dX12_goesLots_92 cb_10 ?_
      refine zs_aload_n dX12_goesLots_94 rfl 0 rfl ?_
      refine zs_getR fl_X12_13 dX12_goesLots_95 (shm_0 hN) rfl ?_
      refine zs_iconst (v := (4 : Int32)) dX12_goesLots_98 ci_4 ?_
      refine zs_ialdC dX12_goesLots_99 (shm_1 hN) vin_4_3531 clp_4 ?_
      refine zs_isub dX12_goesLots_100 ?_
      refine zs_i2l dX12_goesLots_101 ?_
      refine zs_lmul dX12_goesLots_102 ?_
      refine zs_letJ (fun y1 => ?_)
      refine zs_lstore [(8, .long y1), (0, .ref (zz_a G 0)), (3, .long v3), (5, .int v5), (10, .int v10)] dX12_goesLots_103 (Nat.le_of_ble_eq_true rfl) rfl ?_
      refine zs_iinc (fun y => [(10, .int y), (8, .long y1), (0, .ref (zz_a G 0)), (3, .long v3), (5, .int v5)]) dX12_goesLots_105 4 rfl ci_1 (Nat.le_of_ble_eq_true rfl) (fun _ => rfl) (fun x2 => ?_)
      refine zs_goto (tgt := 83) dX12_goesLots_108 (by decide) ?_
      refine zs_sub [2, 3, 4, 1, 0] rfl ?_
      exact ih _ _ _ _ _
def f_X12_goesLots_72 (g : Nat → Int32 → Int32 → Int64 → Int32 → Int64 → zz_Mem → Option zz_Mem)  (v3 : Int64) (v5 : Int32) (v6 : Int64) (m : zz_Mem) : Option zz_Mem :=
  zz_bndR (f_X12_laysPillars m) fun m1 =>
  f_X12_goesLots_83 g zz_fuel v3 v5 v6 (0 : Int32) m1
theorem t_X12_goesLots_72 {l : Launch} {G : zz_G} (hN : 26 ≤ zz_N G) {g : Nat → Int32 → Int32 → Int64 → Int32 → Int64 → zz_Mem → Option zz_Mem} {d : Nat} (hd0 : 5 ≤ d) (hg0 : ∀ (q1 : Int32) (q2 : Int32) (q3 : Int64) (q4 : Int32) (q5 : Int64) (m : zz_Mem), zz_Con zz_shM l G mX12_goesLots d [.ref (zz_a G 0), .int q1, .int q2, .long q3, .int q4, .long q5] zz_vV zz_mV (g 0 q1 q2 q3 q4 q5 m) m)  : ∀ (v3 : Int64) (v5 : Int32) (v6 : Int64) (m : zz_Mem), zz_Sim zz_shM l G mX12_goesLots (d + 1) zz_vV zz_mV (f_X12_goesLots_72 g v3 v5 v6 m) 72 [(0, .ref (zz_a G 0)), (3, .long v3), (5, .int v5), (6, .long v6)] [] m := by
  intro v3 v5 v6 m
  unfold f_X12_goesLots_72
  refine zs_aload_n dX12_goesLots_72 rfl 0 rfl ?_
  refine zs_cV_vW (rest := []) (k_X12_laysPillars hN  _) dX12_goesLots_73 lv_X12_309 ok_X12_laysPillars (zz_rcv_o (shm_0 hN) rfl) (by omega) rfl rfl (Nat.le_of_ble_eq_true rfl) (fun m1 => ?_)
  refine zs_lload dX12_goesLots_76 3 rfl ?_
  refine zs_lstore [(8, .long v6), (0, .ref (zz_a G 0)), (3, .long v3), (5, .int v5), (6, .long v6)] dX12_goesLots_78 (Nat.le_of_ble_eq_true rfl) rfl ?_
  refine zs_iconst (v := (0 : Int32)) dX12_goesLots_80 ci_0 ?_
  refine zs_istore [(10, .int (0 : Int32)), (8, .long v6), (0, .ref (zz_a G 0)), (3, .long v3), (5, .int v5), (6, .long v6)] dX12_goesLots_81 (Nat.le_of_ble_eq_true rfl) rfl ?_
  refine zs_sub [2, 3, 4, 1, 0] rfl ?_
  exact t_X12_goesLots_83 hN hd0 hg0 zz_fuel _ _ _ _ _
def f_X12_goesLots_24 (g : Nat → Int32 → Int32 → Int64 → Int32 → Int64 → zz_Mem → Option zz_Mem)  : Nat → Int32 → Int64 → Int32 → Int64 → Int32 → zz_Mem → Option zz_Mem
  | 0, _, _, _, _, _, _ => none
  | n + 1, v2, v3, v5, v6, v8, m =>
  if (m.1 1 4) ≤ v8 then (
  f_X12_goesLots_72 g v3 v5 v6 m)
  else (
  zz_ix v8 8 <|
  zz_ix v8 8 <|
  zz_bndR (f_X12_kept ((m.1 12 v8.toNatClampNeg) + (v2 * (m.1 22 v8.toNatClampNeg))) (0 : Int32) (999 : Int32)) fun r1 =>
  zz_ix v8 8 <| zz_letM (zz_setI m 12 v8.toNatClampNeg r1) fun m2 =>
  zz_letI (v8 + (1 : Int32)) fun x3 =>
  f_X12_goesLots_24 g n v2 v3 v5 v6 x3 m2)
theorem t_X12_goesLots_24 {l : Launch} {G : zz_G} (hN : 26 ≤ zz_N G) {g : Nat → Int32 → Int32 → Int64 → Int32 → Int64 → zz_Mem → Option zz_Mem} {d : Nat} (hd0 : 5 ≤ d) (hg0 : ∀ (q1 : Int32) (q2 : Int32) (q3 : Int64) (q4 : Int32) (q5 : Int64) (m : zz_Mem), zz_Con zz_shM l G mX12_goesLots d [.ref (zz_a G 0), .int q1, .int q2, .long q3, .int q4, .long q5] zz_vV zz_mV (g 0 q1 q2 q3 q4 q5 m) m)  : ∀ (n : Nat) (v2 : Int32) (v3 : Int64) (v5 : Int32) (v6 : Int64) (v8 : Int32) (m : zz_Mem), zz_Sim zz_shM l G mX12_goesLots (d + 1) zz_vV zz_mV (f_X12_goesLots_24 g n v2 v3 v5 v6 v8 m) 24 [(0, .ref (zz_a G 0)), (2, .int v2), (3, .long v3), (5, .int v5), (6, .long v6), (8, .int v8)] [] m := by
  intro n
  induction n with
  | zero => intro _ _ _ _ _ _; exact zs_none
  | succ n ih =>
    intro v2 v3 v5 v6 v8 m
    rw [f_X12_goesLots_24]
    refine zs_iload dX12_goesLots_24 5 rfl ?_
    refine zs_aload_n dX12_goesLots_26 rfl 0 rfl ?_
    refine zs_getR fl_X12_13 dX12_goesLots_27 (shm_0 hN) rfl ?_
    refine zs_iconst (v := (4 : Int32)) dX12_goesLots_30 ci_4 ?_
    refine zs_ialdC dX12_goesLots_31 (shm_1 hN) vin_4_3531 clp_4 ?_
    refine zs_icmp_ge (tgt := 72) dX12_goesLots_32 (by decide) ?_ ?_
    · refine zs_sub [0, 2, 3, 4] rfl ?_
      exact t_X12_goesLots_72 hN hd0 hg0 _ _ _ _
    · refine zs_aload_n dX12_goesLots_35 rfl 0 rfl ?_
      refine zs_getR fl_X12_51 dX12_goesLots_36 (shm_0 hN) rfl ?_
      refine zs_iload dX12_goesLots_39 5 rfl ?_
      refine zs_aload_n dX12_goesLots_41 rfl 0 rfl ?_
      refine zs_getR fl_X12_51 dX12_goesLots_42 (shm_0 hN) rfl ?_
      refine zs_iload dX12_goesLots_45 5 rfl ?_
      refine zs_ialdG dX12_goesLots_47 (shm_12 hN) ?_
      refine zs_iload_n dX12_goesLots_48 rfl 1 rfl ?_
      refine zs_aload_n dX12_goesLots_49 rfl 0 rfl ?_
      refine zs_getR fl_X12_82 dX12_goesLots_50 (shm_0 hN) rfl ?_
      refine zs_iload dX12_goesLots_53 5 rfl ?_
      refine zs_ialdG dX12_goesLots_55 (shm_22 hN) ?_
      refine zs_imul dX12_goesLots_56 ?_
      refine zs_iadd dX12_goesLots_57 ?_
      refine zs_iconst (v := (0 : Int32)) dX12_goesLots_58 ci_0 ?_
      refine zs_sipush (v := (999 : Int32)) dX12_goesLots_59 cs_999 ?_
      refine zs_cS_iR (rest := [.int v8, .ref (zz_a G 12)]) (k_X12_kept hN _ _ _ _) dX12_goesLots_62 ls_X12_266 ok_X12_kept (by omega) rfl rfl (Nat.le_of_ble_eq_true rfl) (fun r1 => ?_)
      refine zs_iastG dX12_goesLots_65 (shm_12 hN) (fun m2 => ?_)
      refine zs_iinc (fun y => [(8, .int y), (0, .ref (zz_a G 0)), (2, .int v2), (3, .long v3), (5, .int v5), (6, .long v6)]) dX12_goesLots_66 5 rfl ci_1 (Nat.le_of_ble_eq_true rfl) (fun _ => rfl) (fun x3 => ?_)
      refine zs_goto (tgt := 24) dX12_goesLots_69 (by decide) ?_
      refine zs_sub [1, 2, 3, 4, 5, 0] rfl ?_
      exact ih _ _ _ _ _ _
def f_X12_goesLots_160 (g : Nat → Int32 → Int32 → Int64 → Int32 → Int64 → zz_Mem → Option zz_Mem)  : Nat → Int32 → Int32 → Int64 → Int32 → Int64 → Int64 → Int32 → zz_Mem → Option zz_Mem
  | 0, _, _, _, _, _, _, _, _ => none
  | n + 1, v1, v2, v3, v5, v6, v8, v10, m =>
  if v5 < v10 then (
  some m)
  else (
  zz_ix v1 8 <| zz_letM (zz_setI m 22 v1.toNatClampNeg v10) fun m1 =>
  zz_bndR (g 0 (v1 + (1 : Int32)) v2 v3 (v5 - v10) (v6 * v8) m1) fun m2 =>
  zz_nzJ ((v10 + (1 : Int32)).toInt64) <|
  zz_letJ ((v8 * ((v5 - v10).toInt64)) / ((v10 + (1 : Int32)).toInt64)) fun y3 =>
  zz_letI (v10 + (1 : Int32)) fun x4 =>
  f_X12_goesLots_160 g n v1 v2 v3 v5 v6 y3 x4 m2)
theorem t_X12_goesLots_160 {l : Launch} {G : zz_G} (hN : 26 ≤ zz_N G) {g : Nat → Int32 → Int32 → Int64 → Int32 → Int64 → zz_Mem → Option zz_Mem} {d : Nat} (hd0 : 5 ≤ d) (hg0 : ∀ (q1 : Int32) (q2 : Int32) (q3 : Int64) (q4 : Int32) (q5 : Int64) (m : zz_Mem), zz_Con zz_shM l G mX12_goesLots d [.ref (zz_a G 0), .int q1, .int q2, .long q3, .int q4, .long q5] zz_vV zz_mV (g 0 q1 q2 q3 q4 q5 m) m)  : ∀ (n : Nat) (v1 : Int32) (v2 : Int32) (v3 : Int64) (v5 : Int32) (v6 : Int64) (v8 : Int64) (v10 : Int32) (m : zz_Mem), zz_Sim zz_shM l G mX12_goesLots (d + 1) zz_vV zz_mV (f_X12_goesLots_160 g n v1 v2 v3 v5 v6 v8 v10 m) 160 [(0, .ref (zz_a G 0)), (1, .int v1), (2, .int v2), (3, .long v3), (5, .int v5), (6, .long v6), (8, .long v8), (10, .int v10)] [] m := by
  intro n
  induction n with
  | zero => intro _ _ _ _ _ _ _ _; exact zs_none
  | succ n ih =>
    intro v1 v2 v3 v5 v6 v8 v10 m
    rw [f_X12_goesLots_160]
    refine zs_iload dX12_goesLots_160 7 rfl ?_
    refine zs_iload dX12_goesLots_162 4 rfl ?_
    refine zs_icmp_gt (tgt := 217) dX12_goesLots_164 (by decide) ?_ ?_
    · exact zs_vret dX12_goesLots_217 rfl rfl rfl
    · refine zs_aload_n dX12_goesLots_167 rfl 0 rfl ?_
      refine zs_getR fl_X12_82 dX12_goesLots_168 (shm_0 hN) rfl ?_
      refine zs_iload_n dX12_goesLots_171 rfl 1 rfl ?_
      refine zs_iload dX12_goesLots_172 7 rfl ?_
      refine zs_iastG dX12_goesLots_174 (shm_22 hN) (fun m1 => ?_)
      refine zs_aload_n dX12_goesLots_175 rfl 0 rfl ?_
      refine zs_iload_n dX12_goesLots_176 rfl 1 rfl ?_
      refine zs_iconst (v := (1 : Int32)) dX12_goesLots_177 ci_1 ?_
      refine zs_iadd dX12_goesLots_178 ?_
      refine zs_iload_n dX12_goesLots_179 rfl 2 rfl ?_
      refine zs_lload_n dX12_goesLots_180 rfl 3 rfl ?_
      refine zs_iload dX12_goesLots_181 4 rfl ?_
      refine zs_iload dX12_goesLots_183 7 rfl ?_
      refine zs_isub dX12_goesLots_185 ?_
      refine zs_lload dX12_goesLots_186 5 rfl ?_
      refine zs_lload dX12_goesLots_188 6 rfl ?_
      refine zs_lmul dX12_goesLots_190 ?_
      refine zs_cV_vW (rest := []) (hg0 _ _ _ _ _ _) dX12_goesLots_191 lv_X12_457 ok_X12_goesLots (zz_rcv_o (shm_0 hN) rfl) (Nat.le_refl _) rfl rfl (Nat.le_of_ble_eq_true rfl) (fun m2 => ?_)
      refine zs_lload dX12_goesLots_194 6 rfl ?_
      refine zs_iload dX12_goesLots_196 4 rfl ?_
      refine zs_iload dX12_goesLots_198 7 rfl ?_
      refine zs_isub dX12_goesLots_200 ?_
      refine zs_i2l dX12_goesLots_201 ?_
      refine zs_lmul dX12_goesLots_202 ?_
      refine zs_iload dX12_goesLots_203 7 rfl ?_
      refine zs_iconst (v := (1 : Int32)) dX12_goesLots_205 ci_1 ?_
      refine zs_iadd dX12_goesLots_206 ?_
      refine zs_i2l dX12_goesLots_207 ?_
      refine zs_ldivG dX12_goesLots_208 ?_
      refine zs_letJ (fun y3 => ?_)
      refine zs_lstore [(8, .long y3), (0, .ref (zz_a G 0)), (1, .int v1), (2, .int v2), (3, .long v3), (5, .int v5), (6, .long v6), (10, .int v10)] dX12_goesLots_209 (Nat.le_of_ble_eq_true rfl) rfl ?_
      refine zs_iinc (fun y => [(10, .int y), (8, .long y3), (0, .ref (zz_a G 0)), (1, .int v1), (2, .int v2), (3, .long v3), (5, .int v5), (6, .long v6)]) dX12_goesLots_211 7 rfl ci_1 (Nat.le_of_ble_eq_true rfl) (fun _ => rfl) (fun x4 => ?_)
      refine zs_goto (tgt := 160) dX12_goesLots_214 (by decide) ?_
      refine zs_sub [2, 3, 4, 5, 6, 7, 1, 0] rfl ?_
      exact ih _ _ _ _ _ _ _ _
def f_X12_goesLots (g : Nat → Int32 → Int32 → Int64 → Int32 → Int64 → zz_Mem → Option zz_Mem) (p1 : Int32) (p2 : Int32) (p3 : Int64) (p5 : Int32) (p6 : Int64) (m : zz_Mem) : Option zz_Mem :=
  if p1 = (m.1 1 4) then (
  zz_bndR (f_X12_laysCounts (m.1 1 74) m) fun m1 =>
  f_X12_goesLots_24 g zz_fuel p2 p3 p5 p6 (0 : Int32) m1)
  else (
  f_X12_goesLots_160 g zz_fuel p1 p2 p3 p5 p6 (1 : Int64) (0 : Int32) m)
theorem k_X12_goesLots {l : Launch} {G : zz_G} (hN : 26 ≤ zz_N G) {g : Nat → Int32 → Int32 → Int64 → Int32 → Int64 → zz_Mem → Option zz_Mem} {d : Nat} (hd0 : 5 ≤ d) (hg0 : ∀ (q1 : Int32) (q2 : Int32) (q3 : Int64) (q4 : Int32) (q5 : Int64) (m : zz_Mem), zz_Con zz_shM l G mX12_goesLots d [.ref (zz_a G 0), .int q1, .int q2, .long q3, .int q4, .long q5] zz_vV zz_mV (g 0 q1 q2 q3 q4 q5 m) m) : ∀ (p1 : Int32) (p2 : Int32) (p3 : Int64) (p5 : Int32) (p6 : Int64) (m : zz_Mem), zz_Con zz_shM l G mX12_goesLots (d + 1) [.ref (zz_a G 0), .int p1, .int p2, .long p3, .int p5, .long p6] zz_vV zz_mV (f_X12_goesLots g p1 p2 p3 p5 p6 m) m := by
  intro p1 p2 p3 p5 p6 m
  refine zz_con (lv := [(0, .ref (zz_a G 0)), (1, .int p1), (2, .int p2), (3, .long p3), (5, .int p5), (6, .long p6)]) (by decide +kernel) (Nat.le_of_ble_eq_true rfl) rfl ?_
  unfold f_X12_goesLots
  refine zs_iload_n dX12_goesLots_0 rfl 1 rfl ?_
  refine zs_aload_n dX12_goesLots_1 rfl 0 rfl ?_
  refine zs_getR fl_X12_13 dX12_goesLots_2 (shm_0 hN) rfl ?_
  refine zs_iconst (v := (4 : Int32)) dX12_goesLots_5 ci_4 ?_
  refine zs_ialdC dX12_goesLots_6 (shm_1 hN) vin_4_3531 clp_4 ?_
  refine zs_icmp_ne (tgt := 154) dX12_goesLots_7 (by decide) ?_ ?_
  · refine zs_lconst (v := (1 : Int64)) dX12_goesLots_154 rfl ?_
    refine zs_lstore [(8, .long (1 : Int64)), (0, .ref (zz_a G 0)), (1, .int p1), (2, .int p2), (3, .long p3), (5, .int p5), (6, .long p6)] dX12_goesLots_155 (Nat.le_of_ble_eq_true rfl) rfl ?_
    refine zs_iconst (v := (0 : Int32)) dX12_goesLots_157 ci_0 ?_
    refine zs_istore [(10, .int (0 : Int32)), (8, .long (1 : Int64)), (0, .ref (zz_a G 0)), (1, .int p1), (2, .int p2), (3, .long p3), (5, .int p5), (6, .long p6)] dX12_goesLots_158 (Nat.le_of_ble_eq_true rfl) rfl ?_
    refine zs_sub [2, 3, 4, 5, 6, 7, 1, 0] rfl ?_
    exact t_X12_goesLots_160 hN hd0 hg0 zz_fuel _ _ _ _ _ _ _ _
  · refine zs_aload_n dX12_goesLots_10 rfl 0 rfl ?_
    refine zs_aload_n dX12_goesLots_11 rfl 0 rfl ?_
    refine zs_getR fl_X12_13 dX12_goesLots_12 (shm_0 hN) rfl ?_
    refine zs_bipush (v := (74 : Int32)) dX12_goesLots_15 cb_74 ?_
    refine zs_ialdC dX12_goesLots_17 (shm_1 hN) vin_74_3531 clp_74 ?_
    refine zs_cV_vW (rest := []) (k_X12_laysCounts hN _ _) dX12_goesLots_18 lv_X12_306 ok_X12_laysCounts (zz_rcv_o (shm_0 hN) rfl) (by omega) rfl rfl (Nat.le_of_ble_eq_true rfl) (fun m1 => ?_)
    refine zs_iconst (v := (0 : Int32)) dX12_goesLots_21 ci_0 ?_
    refine zs_istore [(8, .int (0 : Int32)), (0, .ref (zz_a G 0)), (1, .int p1), (2, .int p2), (3, .long p3), (5, .int p5), (6, .long p6)] dX12_goesLots_22 (Nat.le_of_ble_eq_true rfl) rfl ?_
    refine zs_sub [1, 3, 4, 5, 6, 0] rfl ?_
    exact t_X12_goesLots_24 hN hd0 hg0 zz_fuel _ _ _ _ _ _
def grp_lots : Nat → Nat → Int32 → Int32 → Int64 → Int32 → Int64 → zz_Mem → Option zz_Mem
  | 0 => fun _ _ _ _ _ _ _ => none
  | n + 1 => fun i => match i with
    | _ => f_X12_goesLots (grp_lots n)
theorem grp_lots_ok {l : Launch} {G : zz_G} (hN : 26 ≤ zz_N G) : ∀ n : Nat, (∀ (q1 : Int32) (q2 : Int32) (q3 : Int64) (q4 : Int32) (q5 : Int64) (m : zz_Mem), zz_Con zz_shM l G mX12_goesLots (5 + n) [.ref (zz_a G 0), .int q1, .int q2, .long q3, .int q4, .long q5] zz_vV zz_mV (grp_lots n 0 q1 q2 q3 q4 q5 m) m) := by
  intro n
  induction n with
  | zero => exact fun _ _ _ _ _ _ _ h => (by have h' : none = some _ := h; cases h')
  | succ n ih =>
    exact k_X12_goesLots hN (Nat.le_add_right _ _) (ih)
def F_X12_goesLots (q1 : Int32) (q2 : Int32) (q3 : Int64) (q4 : Int32) (q5 : Int64) (m : zz_Mem) : Option zz_Mem := grp_lots 12 0 q1 q2 q3 q4 q5 m
theorem K_X12_goesLots {l : Launch} {G : zz_G} (hN : 26 ≤ zz_N G) : ∀ (q1 : Int32) (q2 : Int32) (q3 : Int64) (q4 : Int32) (q5 : Int64) (m : zz_Mem), zz_Con zz_shM l G mX12_goesLots 17 [.ref (zz_a G 0), .int q1, .int q2, .long q3, .int q4, .long q5] zz_vV zz_mV (F_X12_goesLots q1 q2 q3 q4 q5 m) m := (grp_lots_ok hN 12)
/-! X12_laysLots: PillarDeskModel.laysLots(IJI)V -/
theorem dX12_laysLots_0 : decode cX12_laysLots 0 = .ok (.aload_n 0, 1) := by decide +kernel
theorem dX12_laysLots_1 : decode cX12_laysLots 1 = .ok (.lconst 0, 1) := by decide +kernel
theorem dX12_laysLots_2 : decode cX12_laysLots 2 = .ok (.putfield 450, 3) := by decide +kernel
theorem dX12_laysLots_5 : decode cX12_laysLots 5 = .ok (.aload_n 0, 1) := by decide +kernel
theorem dX12_laysLots_6 : decode cX12_laysLots 6 = .ok (.lconst 0, 1) := by decide +kernel
theorem dX12_laysLots_7 : decode cX12_laysLots 7 = .ok (.putfield 454, 3) := by decide +kernel
theorem dX12_laysLots_10 : decode cX12_laysLots 10 = .ok (.aload_n 0, 1) := by decide +kernel
theorem dX12_laysLots_11 : decode cX12_laysLots 11 = .ok (.iconst 0, 1) := by decide +kernel
theorem dX12_laysLots_12 : decode cX12_laysLots 12 = .ok (.iload_n 1, 1) := by decide +kernel
theorem dX12_laysLots_13 : decode cX12_laysLots 13 = .ok (.lload_n 2, 1) := by decide +kernel
theorem dX12_laysLots_14 : decode cX12_laysLots 14 = .ok (.iload 4, 2) := by decide +kernel
theorem dX12_laysLots_16 : decode cX12_laysLots 16 = .ok (.lconst 1, 1) := by decide +kernel
theorem dX12_laysLots_17 : decode cX12_laysLots 17 = .ok (.invokevirtual 457, 3) := by decide +kernel
theorem dX12_laysLots_20 : decode cX12_laysLots 20 = .ok (.return_, 1) := by decide +kernel
def f_X12_laysLots  (p1 : Int32) (p2 : Int64) (p4 : Int32) (m : zz_Mem) : Option zz_Mem :=
  zz_letM (zz_setJ m 0 37 (0 : Int64)) fun m1 =>
  zz_letM (zz_setJ m1 0 38 (0 : Int64)) fun m2 =>
  zz_bndR (F_X12_goesLots (0 : Int32) p1 p2 p4 (1 : Int64) m2) fun m3 =>
  some m3
theorem k_X12_laysLots {l : Launch} {G : zz_G} (hN : 26 ≤ zz_N G) : ∀ (p1 : Int32) (p2 : Int64) (p4 : Int32) (m : zz_Mem), zz_Con zz_shM l G mX12_laysLots 18 [.ref (zz_a G 0), .int p1, .long p2, .int p4] zz_vV zz_mV (f_X12_laysLots p1 p2 p4 m) m := by
  intro p1 p2 p4 m
  refine zz_con (lv := [(0, .ref (zz_a G 0)), (1, .int p1), (2, .long p2), (4, .int p4)]) (by decide +kernel) (Nat.le_of_ble_eq_true rfl) rfl ?_
  unfold f_X12_laysLots
  refine zs_aload_n dX12_laysLots_0 rfl 0 rfl ?_
  refine zs_lconst (v := (0 : Int64)) dX12_laysLots_1 rfl ?_
  refine zs_putJ fl_X12_450 dX12_laysLots_2 (shm_0 hN) rfl ⟨rfl, rfl⟩ (fun m1 => ?_)
  refine zs_aload_n dX12_laysLots_5 rfl 0 rfl ?_
  refine zs_lconst (v := (0 : Int64)) dX12_laysLots_6 rfl ?_
  refine zs_putJ fl_X12_454 dX12_laysLots_7 (shm_0 hN) rfl ⟨rfl, rfl⟩ (fun m2 => ?_)
  refine zs_aload_n dX12_laysLots_10 rfl 0 rfl ?_
  refine zs_iconst (v := (0 : Int32)) dX12_laysLots_11 ci_0 ?_
  refine zs_iload_n dX12_laysLots_12 rfl 1 rfl ?_
  refine zs_lload_n dX12_laysLots_13 rfl 2 rfl ?_
  refine zs_iload dX12_laysLots_14 3 rfl ?_
  refine zs_lconst (v := (1 : Int64)) dX12_laysLots_16 rfl ?_
  refine zs_cV_vW (rest := []) (K_X12_goesLots hN _ _ _ _ _ _) dX12_laysLots_17 lv_X12_457 ok_X12_goesLots (zz_rcv_o (shm_0 hN) rfl) (Nat.le_of_ble_eq_true rfl) rfl rfl (Nat.le_of_ble_eq_true rfl) (fun m3 => ?_)
  exact zs_vret dX12_laysLots_20 rfl rfl rfl
/-! X12_wholeOf: PillarDeskModel.wholeOf(I)J -/
theorem dX12_wholeOf_0 : decode cX12_wholeOf 0 = .ok (.lconst 1, 1) := by decide +kernel
theorem dX12_wholeOf_1 : decode cX12_wholeOf 1 = .ok (.lstore_n 1, 1) := by decide +kernel
theorem dX12_wholeOf_2 : decode cX12_wholeOf 2 = .ok (.iconst 0, 1) := by decide +kernel
theorem dX12_wholeOf_3 : decode cX12_wholeOf 3 = .ok (.istore_n 3, 1) := by decide +kernel
theorem dX12_wholeOf_4 : decode cX12_wholeOf 4 = .ok (.iload_n 3, 1) := by decide +kernel
theorem dX12_wholeOf_5 : decode cX12_wholeOf 5 = .ok (.iload_n 0, 1) := by decide +kernel
theorem dX12_wholeOf_6 : decode cX12_wholeOf 6 = .ok (.if_icmp .ge 15, 3) := by decide +kernel
theorem dX12_wholeOf_9 : decode cX12_wholeOf 9 = .ok (.lload_n 1, 1) := by decide +kernel
theorem dX12_wholeOf_10 : decode cX12_wholeOf 10 = .ok (.ldc2_w 339, 3) := by decide +kernel
theorem dX12_wholeOf_13 : decode cX12_wholeOf 13 = .ok (.lmul, 1) := by decide +kernel
theorem dX12_wholeOf_14 : decode cX12_wholeOf 14 = .ok (.lstore_n 1, 1) := by decide +kernel
theorem dX12_wholeOf_15 : decode cX12_wholeOf 15 = .ok (.iinc 3 1, 3) := by decide +kernel
theorem dX12_wholeOf_18 : decode cX12_wholeOf 18 = .ok (.goto (-14), 3) := by decide +kernel
theorem dX12_wholeOf_21 : decode cX12_wholeOf 21 = .ok (.lload_n 1, 1) := by decide +kernel
theorem dX12_wholeOf_22 : decode cX12_wholeOf 22 = .ok (.lreturn, 1) := by decide +kernel
def f_X12_wholeOf_4   : Nat → Int32 → Int64 → Int32 → Option Int64
  | 0, _, _, _ => none
  | n + 1, v0, v1, v3 =>
  if v0 ≤ v3 then (
  some v1)
  else (
  zz_letJ (v1 * (10 : Int64)) fun y1 =>
  zz_letI (v3 + (1 : Int32)) fun x2 =>
  f_X12_wholeOf_4 n v0 y1 x2)
theorem t_X12_wholeOf_4 {l : Launch} {G : zz_G} (hN : 26 ≤ zz_N G) {m : zz_Mem}  : ∀ (n : Nat) (v0 : Int32) (v1 : Int64) (v3 : Int32), zz_Sim zz_shM l G mX12_wholeOf 0 zz_vJr (zz_mC m) (f_X12_wholeOf_4 n v0 v1 v3) 4 [(0, .int v0), (1, .long v1), (3, .int v3)] [] m := by
  intro n
  induction n with
  | zero => intro _ _ _; exact zs_none
  | succ n ih =>
    intro v0 v1 v3
    rw [f_X12_wholeOf_4]
    refine zs_iload_n dX12_wholeOf_4 rfl 2 rfl ?_
    refine zs_iload_n dX12_wholeOf_5 rfl 0 rfl ?_
    refine zs_icmp_ge (tgt := 21) dX12_wholeOf_6 (by decide) ?_ ?_
    · refine zs_lload_n dX12_wholeOf_21 rfl 1 rfl ?_
      exact zs_lret dX12_wholeOf_22 rfl rfl rfl
    · refine zs_lload_n dX12_wholeOf_9 rfl 1 rfl ?_
      refine zs_ldc2 (v := (10 : Int64)) dX12_wholeOf_10 kc_X12_339 ?_
      refine zs_lmul dX12_wholeOf_13 ?_
      refine zs_letJ (fun y1 => ?_)
      refine zs_lstore_n [(1, .long y1), (0, .int v0), (3, .int v3)] dX12_wholeOf_14 rfl (Nat.le_of_ble_eq_true rfl) rfl ?_
      refine zs_iinc (fun y => [(3, .int y), (1, .long y1), (0, .int v0)]) dX12_wholeOf_15 2 rfl ci_1 (Nat.le_of_ble_eq_true rfl) (fun _ => rfl) (fun x2 => ?_)
      refine zs_goto (tgt := 4) dX12_wholeOf_18 (by decide) ?_
      refine zs_sub [2, 1, 0] rfl ?_
      exact ih _ _ _
def f_X12_wholeOf  (p0 : Int32) : Option Int64 :=
  f_X12_wholeOf_4 zz_fuel p0 (1 : Int64) (0 : Int32)
theorem k_X12_wholeOf {l : Launch} {G : zz_G} (hN : 26 ≤ zz_N G) : ∀ (p0 : Int32) (m : zz_Mem), zz_Con zz_shM l G mX12_wholeOf 0 [.int p0] zz_vJr (zz_mC m) (f_X12_wholeOf p0) m := by
  intro p0 m
  refine zz_con (lv := [(0, .int p0)]) (by decide +kernel) (Nat.le_of_ble_eq_true rfl) rfl ?_
  unfold f_X12_wholeOf
  refine zs_lconst (v := (1 : Int64)) dX12_wholeOf_0 rfl ?_
  refine zs_lstore_n [(1, .long (1 : Int64)), (0, .int p0)] dX12_wholeOf_1 rfl (Nat.le_of_ble_eq_true rfl) rfl ?_
  refine zs_iconst (v := (0 : Int32)) dX12_wholeOf_2 ci_0 ?_
  refine zs_istore_n [(3, .int (0 : Int32)), (1, .long (1 : Int64)), (0, .int p0)] dX12_wholeOf_3 rfl (Nat.le_of_ble_eq_true rfl) rfl ?_
  refine zs_sub [2, 1, 0] rfl ?_
  exact t_X12_wholeOf_4 hN zz_fuel _ _ _
/-! X12_common: PillarDeskModel.common(JJ)J -/
theorem dX12_common_0 : decode cX12_common 0 = .ok (.lload_n 2, 1) := by decide +kernel
theorem dX12_common_1 : decode cX12_common 1 = .ok (.lconst 0, 1) := by decide +kernel
theorem dX12_common_2 : decode cX12_common 2 = .ok (.lcmp, 1) := by decide +kernel
theorem dX12_common_3 : decode cX12_common 3 = .ok (.ifCond .ne 18, 3) := by decide +kernel
theorem dX12_common_6 : decode cX12_common 6 = .ok (.lload_n 0, 1) := by decide +kernel
theorem dX12_common_7 : decode cX12_common 7 = .ok (.lconst 0, 1) := by decide +kernel
theorem dX12_common_8 : decode cX12_common 8 = .ok (.lcmp, 1) := by decide +kernel
theorem dX12_common_9 : decode cX12_common 9 = .ok (.ifCond .ge 8, 3) := by decide +kernel
theorem dX12_common_12 : decode cX12_common 12 = .ok (.lload_n 0, 1) := by decide +kernel
theorem dX12_common_13 : decode cX12_common 13 = .ok (.lneg, 1) := by decide +kernel
theorem dX12_common_14 : decode cX12_common 14 = .ok (.goto 14, 3) := by decide +kernel
theorem dX12_common_17 : decode cX12_common 17 = .ok (.lload_n 0, 1) := by decide +kernel
theorem dX12_common_18 : decode cX12_common 18 = .ok (.goto 10, 3) := by decide +kernel
theorem dX12_common_21 : decode cX12_common 21 = .ok (.lload_n 2, 1) := by decide +kernel
theorem dX12_common_22 : decode cX12_common 22 = .ok (.lload_n 0, 1) := by decide +kernel
theorem dX12_common_23 : decode cX12_common 23 = .ok (.lload_n 2, 1) := by decide +kernel
theorem dX12_common_24 : decode cX12_common 24 = .ok (.lrem, 1) := by decide +kernel
theorem dX12_common_25 : decode cX12_common 25 = .ok (.invokestatic 461, 3) := by decide +kernel
theorem dX12_common_28 : decode cX12_common 28 = .ok (.lreturn, 1) := by decide +kernel
def f_X12_common (g : Nat → Int64 → Int64 → Option Int64) (p0 : Int64) (p2 : Int64) : Option Int64 :=
  if p2 = (0 : Int64) then (
  if (0 : Int64) ≤ p0 then (
  some p0)
  else (
  some (-p0)))
  else (
  zz_nzJ p2 <|
  zz_bndR (g 0 p2 (p0 - p0 / p2 * p2)) fun r1 =>
  some r1)
theorem k_X12_common {l : Launch} {G : zz_G} (hN : 26 ≤ zz_N G) {g : Nat → Int64 → Int64 → Option Int64} {d : Nat} (hd0 : 0 ≤ d) (hg0 : ∀ (q0 : Int64) (q1 : Int64) (m : zz_Mem), zz_Con zz_shM l G mX12_common d [.long q0, .long q1] zz_vJr (zz_mC m) (g 0 q0 q1) m) : ∀ (p0 : Int64) (p2 : Int64) (m : zz_Mem), zz_Con zz_shM l G mX12_common (d + 1) [.long p0, .long p2] zz_vJr (zz_mC m) (f_X12_common g p0 p2) m := by
  intro p0 p2 m
  refine zz_con (lv := [(0, .long p0), (2, .long p2)]) (by decide +kernel) (Nat.le_of_ble_eq_true rfl) rfl ?_
  unfold f_X12_common
  refine zs_lload_n dX12_common_0 rfl 1 rfl ?_
  refine zs_lconst (v := (0 : Int64)) dX12_common_1 rfl ?_
  refine zs_lcmp_ne (tgt := 21) dX12_common_2 dX12_common_3 (by decide) ?_ ?_
  · refine zs_lload_n dX12_common_21 rfl 1 rfl ?_
    refine zs_lload_n dX12_common_22 rfl 0 rfl ?_
    refine zs_lload_n dX12_common_23 rfl 1 rfl ?_
    refine zs_lremG dX12_common_24 ?_
    refine zs_cS_jR (rest := []) (hg0 _ _ _) dX12_common_25 ls_X12_461 ok_X12_common (Nat.le_refl _) rfl rfl (Nat.le_of_ble_eq_true rfl) (fun r1 => ?_)
    exact zs_lret dX12_common_28 rfl rfl rfl
  · refine zs_lload_n dX12_common_6 rfl 0 rfl ?_
    refine zs_lconst (v := (0 : Int64)) dX12_common_7 rfl ?_
    refine zs_lcmp_ge (tgt := 17) dX12_common_8 dX12_common_9 (by decide) ?_ ?_
    · refine zs_lload_n dX12_common_17 rfl 0 rfl ?_
      refine zs_goto (tgt := 28) dX12_common_18 (by decide) ?_
      exact zs_lret dX12_common_28 rfl rfl rfl
    · refine zs_lload_n dX12_common_12 rfl 0 rfl ?_
      refine zs_lneg dX12_common_13 ?_
      refine zs_goto (tgt := 28) dX12_common_14 (by decide) ?_
      exact zs_lret dX12_common_28 rfl rfl rfl
def grp_common : Nat → Nat → Int64 → Int64 → Option Int64
  | 0 => fun _ _ _ => none
  | n + 1 => fun i => match i with
    | _ => f_X12_common (grp_common n)
theorem grp_common_ok {l : Launch} {G : zz_G} (hN : 26 ≤ zz_N G) : ∀ n : Nat, (∀ (q0 : Int64) (q1 : Int64) (m : zz_Mem), zz_Con zz_shM l G mX12_common (0 + n) [.long q0, .long q1] zz_vJr (zz_mC m) (grp_common n 0 q0 q1) m) := by
  intro n
  induction n with
  | zero => exact fun _ _ _ _ h => (by have h' : none = some _ := h; cases h')
  | succ n ih =>
    exact k_X12_common hN (Nat.le_add_right _ _) (ih)
def F_X12_common (q0 : Int64) (q1 : Int64) : Option Int64 := grp_common 200 0 q0 q1
theorem K_X12_common {l : Launch} {G : zz_G} (hN : 26 ≤ zz_N G) : ∀ (q0 : Int64) (q1 : Int64) (m : zz_Mem), zz_Con zz_shM l G mX12_common 200 [.long q0, .long q1] zz_vJr (zz_mC m) (F_X12_common q0 q1) m := (grp_common_ok hN 200)
/-! X12_isLots: PillarDeskModel.isLots(II)Z -/
theorem dX12_isLots_0 : decode cX12_isLots 0 = .ok (.iload_n 0, 1) := by decide +kernel
theorem dX12_isLots_1 : decode cX12_isLots 1 = .ok (.i2l, 1) := by decide +kernel
theorem dX12_isLots_2 : decode cX12_isLots 2 = .ok (.ldc2_w 320, 3) := by decide +kernel
theorem dX12_isLots_5 : decode cX12_isLots 5 = .ok (.ldc2_w 260, 3) := by decide +kernel
theorem dX12_isLots_8 : decode cX12_isLots 8 = .ok (.invokestatic 163, 3) := by decide +kernel
theorem dX12_isLots_11 : decode cX12_isLots 11 = .ok (.ifCond .eq 19, 3) := by decide +kernel
theorem dX12_isLots_14 : decode cX12_isLots 14 = .ok (.iload_n 1, 1) := by decide +kernel
theorem dX12_isLots_15 : decode cX12_isLots 15 = .ok (.i2l, 1) := by decide +kernel
theorem dX12_isLots_16 : decode cX12_isLots 16 = .ok (.lconst 0, 1) := by decide +kernel
theorem dX12_isLots_17 : decode cX12_isLots 17 = .ok (.ldc2_w 363, 3) := by decide +kernel
theorem dX12_isLots_20 : decode cX12_isLots 20 = .ok (.invokestatic 163, 3) := by decide +kernel
theorem dX12_isLots_23 : decode cX12_isLots 23 = .ok (.ifCond .eq 7, 3) := by decide +kernel
theorem dX12_isLots_26 : decode cX12_isLots 26 = .ok (.iconst 1, 1) := by decide +kernel
theorem dX12_isLots_27 : decode cX12_isLots 27 = .ok (.goto 4, 3) := by decide +kernel
theorem dX12_isLots_30 : decode cX12_isLots 30 = .ok (.iconst 0, 1) := by decide +kernel
theorem dX12_isLots_31 : decode cX12_isLots 31 = .ok (.ireturn, 1) := by decide +kernel
def f_X12_isLots  (p0 : Int32) (p1 : Int32) : Option Int32 :=
  zz_bndR (f_X12_within p0.toInt64 (-99 : Int64) (99 : Int64)) fun r1 =>
  if r1 = 0 then (
  some (0 : Int32))
  else (
  zz_bndR (f_X12_within p1.toInt64 (0 : Int64) (3 : Int64)) fun r2 =>
  if r2 = 0 then (
  some (0 : Int32))
  else (
  some (1 : Int32)))
theorem k_X12_isLots {l : Launch} {G : zz_G} (hN : 26 ≤ zz_N G) : ∀ (p0 : Int32) (p1 : Int32) (m : zz_Mem), zz_Con zz_shM l G mX12_isLots 1 [.int p0, .int p1] zz_vIr (zz_mC m) (f_X12_isLots p0 p1) m := by
  intro p0 p1 m
  refine zz_con (lv := [(0, .int p0), (1, .int p1)]) (by decide +kernel) (Nat.le_of_ble_eq_true rfl) rfl ?_
  unfold f_X12_isLots
  refine zs_iload_n dX12_isLots_0 rfl 0 rfl ?_
  refine zs_i2l dX12_isLots_1 ?_
  refine zs_ldc2 (v := (-99 : Int64)) dX12_isLots_2 kc_X12_320 ?_
  refine zs_ldc2 (v := (99 : Int64)) dX12_isLots_5 kc_X12_260 ?_
  refine zs_cS_iR (rest := []) (k_X12_within hN _ _ _ _) dX12_isLots_8 ls_X12_163 ok_X12_within (Nat.le_of_ble_eq_true rfl) rfl rfl (Nat.le_of_ble_eq_true rfl) (fun r1 => ?_)
  refine zs_if_eq (tgt := 30) dX12_isLots_11 (by decide) ?_ ?_
  · refine zs_iconst (v := (0 : Int32)) dX12_isLots_30 ci_0 ?_
    exact zs_zret dX12_isLots_31 rfl rfl rfl rfl
  · refine zs_iload_n dX12_isLots_14 rfl 1 rfl ?_
    refine zs_i2l dX12_isLots_15 ?_
    refine zs_lconst (v := (0 : Int64)) dX12_isLots_16 rfl ?_
    refine zs_ldc2 (v := (3 : Int64)) dX12_isLots_17 kc_X12_363 ?_
    refine zs_cS_iR (rest := []) (k_X12_within hN _ _ _ _) dX12_isLots_20 ls_X12_163 ok_X12_within (Nat.le_of_ble_eq_true rfl) rfl rfl (Nat.le_of_ble_eq_true rfl) (fun r2 => ?_)
    refine zs_if_eq (tgt := 30) dX12_isLots_23 (by decide) ?_ ?_
    · refine zs_iconst (v := (0 : Int32)) dX12_isLots_30 ci_0 ?_
      exact zs_zret dX12_isLots_31 rfl rfl rfl rfl
    · refine zs_iconst (v := (1 : Int32)) dX12_isLots_26 ci_1 ?_
      refine zs_goto (tgt := 31) dX12_isLots_27 (by decide) ?_
      exact zs_zret dX12_isLots_31 rfl rfl rfl rfl
/-! X12_chance: PillarDeskModel.chance(IJII)I -/
theorem dX12_chance_0 : decode cX12_chance 0 = .ok (.aload_n 0, 1) := by decide +kernel
theorem dX12_chance_1 : decode cX12_chance 1 = .ok (.iconst 0, 1) := by decide +kernel
theorem dX12_chance_2 : decode cX12_chance 2 = .ok (.putfield 1, 3) := by decide +kernel
theorem dX12_chance_5 : decode cX12_chance 5 = .ok (.iload 5, 2) := by decide +kernel
theorem dX12_chance_7 : decode cX12_chance 7 = .ok (.i2l, 1) := by decide +kernel
theorem dX12_chance_8 : decode cX12_chance 8 = .ok (.lconst 0, 1) := by decide +kernel
theorem dX12_chance_9 : decode cX12_chance 9 = .ok (.lconst 1, 1) := by decide +kernel
theorem dX12_chance_10 : decode cX12_chance 10 = .ok (.invokestatic 163, 3) := by decide +kernel
theorem dX12_chance_13 : decode cX12_chance 13 = .ok (.ifCond .ne 6, 3) := by decide +kernel
theorem dX12_chance_16 : decode cX12_chance 16 = .ok (.bipush (-2), 2) := by decide +kernel
theorem dX12_chance_18 : decode cX12_chance 18 = .ok (.ireturn, 1) := by decide +kernel
theorem dX12_chance_19 : decode cX12_chance 19 = .ok (.iload_n 1, 1) := by decide +kernel
theorem dX12_chance_20 : decode cX12_chance 20 = .ok (.iload 4, 2) := by decide +kernel
theorem dX12_chance_22 : decode cX12_chance 22 = .ok (.invokestatic 464, 3) := by decide +kernel
theorem dX12_chance_25 : decode cX12_chance 25 = .ok (.ifCond .eq 16, 3) := by decide +kernel
theorem dX12_chance_28 : decode cX12_chance 28 = .ok (.lload_n 2, 1) := by decide +kernel
theorem dX12_chance_29 : decode cX12_chance 29 = .ok (.ldc2_w 234, 3) := by decide +kernel
theorem dX12_chance_32 : decode cX12_chance 32 = .ok (.ldc2_w 232, 3) := by decide +kernel
theorem dX12_chance_35 : decode cX12_chance 35 = .ok (.invokestatic 163, 3) := by decide +kernel
theorem dX12_chance_38 : decode cX12_chance 38 = .ok (.ifCond .ne 6, 3) := by decide +kernel
theorem dX12_chance_41 : decode cX12_chance 41 = .ok (.bipush (-3), 2) := by decide +kernel
theorem dX12_chance_43 : decode cX12_chance 43 = .ok (.ireturn, 1) := by decide +kernel
theorem dX12_chance_44 : decode cX12_chance 44 = .ok (.aload_n 0, 1) := by decide +kernel
theorem dX12_chance_45 : decode cX12_chance 45 = .ok (.iload_n 1, 1) := by decide +kernel
theorem dX12_chance_46 : decode cX12_chance 46 = .ok (.lload_n 2, 1) := by decide +kernel
theorem dX12_chance_47 : decode cX12_chance 47 = .ok (.ldc2_w 296, 3) := by decide +kernel
theorem dX12_chance_50 : decode cX12_chance 50 = .ok (.lmul, 1) := by decide +kernel
theorem dX12_chance_51 : decode cX12_chance 51 = .ok (.iload 4, 2) := by decide +kernel
theorem dX12_chance_53 : decode cX12_chance 53 = .ok (.invokevirtual 467, 3) := by decide +kernel
theorem dX12_chance_56 : decode cX12_chance 56 = .ok (.iload 5, 2) := by decide +kernel
theorem dX12_chance_58 : decode cX12_chance 58 = .ok (.ifCond .ne 10, 3) := by decide +kernel
theorem dX12_chance_61 : decode cX12_chance 61 = .ok (.aload_n 0, 1) := by decide +kernel
theorem dX12_chance_62 : decode cX12_chance 62 = .ok (.getfield 450, 3) := by decide +kernel
theorem dX12_chance_65 : decode cX12_chance 65 = .ok (.goto 8, 3) := by decide +kernel
theorem dX12_chance_68 : decode cX12_chance 68 = .ok (.iload 4, 2) := by decide +kernel
theorem dX12_chance_70 : decode cX12_chance 70 = .ok (.invokestatic 471, 3) := by decide +kernel
theorem dX12_chance_73 : decode cX12_chance 73 = .ok (.aload_n 0, 1) := by decide +kernel
theorem dX12_chance_74 : decode cX12_chance 74 = .ok (.getfield 450, 3) := by decide +kernel
theorem dX12_chance_77 : decode cX12_chance 77 = .ok (.iload 4, 2) := by decide +kernel
theorem dX12_chance_79 : decode cX12_chance 79 = .ok (.invokestatic 471, 3) := by decide +kernel
theorem dX12_chance_82 : decode cX12_chance 82 = .ok (.invokestatic 461, 3) := by decide +kernel
theorem dX12_chance_85 : decode cX12_chance 85 = .ok (.ldiv, 1) := by decide +kernel
theorem dX12_chance_86 : decode cX12_chance 86 = .ok (.l2i, 1) := by decide +kernel
theorem dX12_chance_87 : decode cX12_chance 87 = .ok (.ireturn, 1) := by decide +kernel
def f_X12_chance_73   (v4 : Int32) (s0 : Int64) (m : zz_Mem) : Option (Int32 × zz_Mem) :=
  zz_bndR (f_X12_wholeOf v4) fun r1 =>
  zz_bndR (F_X12_common (m.2.1 0 37) r1) fun r2 =>
  zz_nzJ r2 <|
  some ((s0 / r2).toInt32, m)
theorem t_X12_chance_73 {l : Launch} {G : zz_G} (hN : 26 ≤ zz_N G)  : ∀ (v4 : Int32) (s0 : Int64) (m : zz_Mem), zz_Sim zz_shM l G mX12_chance 201 zz_vI zz_m2 (f_X12_chance_73 v4 s0 m) 73 [(0, .ref (zz_a G 0)), (4, .int v4)] [.long s0] m := by
  intro v4 s0 m
  unfold f_X12_chance_73
  refine zs_aload_n dX12_chance_73 rfl 0 rfl ?_
  refine zs_getJ fl_X12_450 dX12_chance_74 (shm_0 hN) rfl ?_
  refine zs_iload dX12_chance_77 1 rfl ?_
  refine zs_cS_jR (rest := [.long (m.2.1 0 37), .long s0]) (k_X12_wholeOf hN _ _) dX12_chance_79 ls_X12_471 ok_X12_wholeOf (Nat.le_of_ble_eq_true rfl) rfl rfl (Nat.le_of_ble_eq_true rfl) (fun r1 => ?_)
  refine zs_cS_jR (rest := [.long s0]) (K_X12_common hN _ _ _) dX12_chance_82 ls_X12_461 ok_X12_common (Nat.le_of_ble_eq_true rfl) rfl rfl (Nat.le_of_ble_eq_true rfl) (fun r2 => ?_)
  refine zs_ldivG dX12_chance_85 ?_
  refine zs_l2i dX12_chance_86 ?_
  exact zs_iret dX12_chance_87 rfl rfl rfl
def f_X12_chance  (p1 : Int32) (p2 : Int64) (p4 : Int32) (p5 : Int32) (m : zz_Mem) : Option (Int32 × zz_Mem) :=
  zz_letM (zz_setI m 0 0 (0 : Int32)) fun m1 =>
  zz_bndR (f_X12_within p5.toInt64 (0 : Int64) (1 : Int64)) fun r2 =>
  if r2 = 0 then (
  some ((-2 : Int32), m1))
  else (
  zz_bndR (f_X12_isLots p1 p4) fun r3 =>
  if r3 = 0 then (
  some ((-3 : Int32), m1))
  else (
  zz_bndR (f_X12_within p2 (-1000000 : Int64) (1000000 : Int64)) fun r4 =>
  if r4 = 0 then (
  some ((-3 : Int32), m1))
  else (
  zz_bndR (f_X12_laysLots p1 (p2 * (1000000000 : Int64)) p4 m1) fun m5 =>
  if p5 = 0 then (
  f_X12_chance_73 p4 (m5.2.1 0 37) m5)
  else (
  zz_bndR (f_X12_wholeOf p4) fun r6 =>
  f_X12_chance_73 p4 r6 m5))))
theorem k_X12_chance {l : Launch} {G : zz_G} (hN : 26 ≤ zz_N G) : ∀ (p1 : Int32) (p2 : Int64) (p4 : Int32) (p5 : Int32) (m : zz_Mem), zz_Con zz_shM l G mX12_chance 201 [.ref (zz_a G 0), .int p1, .long p2, .int p4, .int p5] zz_vI zz_m2 (f_X12_chance p1 p2 p4 p5 m) m := by
  intro p1 p2 p4 p5 m
  refine zz_con (lv := [(0, .ref (zz_a G 0)), (1, .int p1), (2, .long p2), (4, .int p4), (5, .int p5)]) (by decide +kernel) (Nat.le_of_ble_eq_true rfl) rfl ?_
  unfold f_X12_chance
  refine zs_aload_n dX12_chance_0 rfl 0 rfl ?_
  refine zs_iconst (v := (0 : Int32)) dX12_chance_1 ci_0 ?_
  refine zs_putI fl_X12_1 dX12_chance_2 (shm_0 hN) rfl ⟨rfl, rfl⟩ (fun m1 => ?_)
  refine zs_iload dX12_chance_5 4 rfl ?_
  refine zs_i2l dX12_chance_7 ?_
  refine zs_lconst (v := (0 : Int64)) dX12_chance_8 rfl ?_
  refine zs_lconst (v := (1 : Int64)) dX12_chance_9 rfl ?_
  refine zs_cS_iR (rest := []) (k_X12_within hN _ _ _ _) dX12_chance_10 ls_X12_163 ok_X12_within (Nat.le_of_ble_eq_true rfl) rfl rfl (Nat.le_of_ble_eq_true rfl) (fun r2 => ?_)
  refine zs_if_ne (tgt := 19) dX12_chance_13 (by decide) ?_ ?_
  · refine zs_iload_n dX12_chance_19 rfl 1 rfl ?_
    refine zs_iload dX12_chance_20 3 rfl ?_
    refine zs_cS_iR (rest := []) (k_X12_isLots hN _ _ _) dX12_chance_22 ls_X12_464 ok_X12_isLots (Nat.le_of_ble_eq_true rfl) rfl rfl (Nat.le_of_ble_eq_true rfl) (fun r3 => ?_)
    refine zs_if_eq (tgt := 41) dX12_chance_25 (by decide) ?_ ?_
    · refine zs_bipush (v := (-3 : Int32)) dX12_chance_41 cb_m3 ?_
      exact zs_iret dX12_chance_43 rfl rfl rfl
    · refine zs_lload_n dX12_chance_28 rfl 2 rfl ?_
      refine zs_ldc2 (v := (-1000000 : Int64)) dX12_chance_29 kc_X12_234 ?_
      refine zs_ldc2 (v := (1000000 : Int64)) dX12_chance_32 kc_X12_232 ?_
      refine zs_cS_iR (rest := []) (k_X12_within hN _ _ _ _) dX12_chance_35 ls_X12_163 ok_X12_within (Nat.le_of_ble_eq_true rfl) rfl rfl (Nat.le_of_ble_eq_true rfl) (fun r4 => ?_)
      refine zs_if_ne (tgt := 44) dX12_chance_38 (by decide) ?_ ?_
      · refine zs_aload_n dX12_chance_44 rfl 0 rfl ?_
        refine zs_iload_n dX12_chance_45 rfl 1 rfl ?_
        refine zs_lload_n dX12_chance_46 rfl 2 rfl ?_
        refine zs_ldc2 (v := (1000000000 : Int64)) dX12_chance_47 kc_X12_296 ?_
        refine zs_lmul dX12_chance_50 ?_
        refine zs_iload dX12_chance_51 3 rfl ?_
        refine zs_cV_vW (rest := []) (k_X12_laysLots hN _ _ _ _) dX12_chance_53 lv_X12_467 ok_X12_laysLots (zz_rcv_o (shm_0 hN) rfl) (Nat.le_of_ble_eq_true rfl) rfl rfl (Nat.le_of_ble_eq_true rfl) (fun m5 => ?_)
        refine zs_iload dX12_chance_56 4 rfl ?_
        refine zs_if_ne (tgt := 68) dX12_chance_58 (by decide) ?_ ?_
        · refine zs_iload dX12_chance_68 3 rfl ?_
          refine zs_cS_jR (rest := []) (k_X12_wholeOf hN _ _) dX12_chance_70 ls_X12_471 ok_X12_wholeOf (Nat.le_of_ble_eq_true rfl) rfl rfl (Nat.le_of_ble_eq_true rfl) (fun r6 => ?_)
          refine zs_sub [0, 3] rfl ?_
          exact t_X12_chance_73 hN _ _ _
        · refine zs_aload_n dX12_chance_61 rfl 0 rfl ?_
          refine zs_getJ fl_X12_450 dX12_chance_62 (shm_0 hN) rfl ?_
          refine zs_goto (tgt := 73) dX12_chance_65 (by decide) ?_
          refine zs_sub [0, 3] rfl ?_
          exact t_X12_chance_73 hN _ _ _
      · refine zs_bipush (v := (-3 : Int32)) dX12_chance_41 cb_m3 ?_
        exact zs_iret dX12_chance_43 rfl rfl rfl
  · refine zs_bipush (v := (-2 : Int32)) dX12_chance_16 cb_m2 ?_
    exact zs_iret dX12_chance_18 rfl rfl rfl
/-! X12_mean: PillarDeskModel.mean(III)J -/
theorem dX12_mean_0 : decode cX12_mean 0 = .ok (.aload_n 0, 1) := by decide +kernel
theorem dX12_mean_1 : decode cX12_mean 1 = .ok (.iconst 0, 1) := by decide +kernel
theorem dX12_mean_2 : decode cX12_mean 2 = .ok (.putfield 1, 3) := by decide +kernel
theorem dX12_mean_5 : decode cX12_mean 5 = .ok (.iload_n 3, 1) := by decide +kernel
theorem dX12_mean_6 : decode cX12_mean 6 = .ok (.i2l, 1) := by decide +kernel
theorem dX12_mean_7 : decode cX12_mean 7 = .ok (.lconst 0, 1) := by decide +kernel
theorem dX12_mean_8 : decode cX12_mean 8 = .ok (.lconst 1, 1) := by decide +kernel
theorem dX12_mean_9 : decode cX12_mean 9 = .ok (.invokestatic 163, 3) := by decide +kernel
theorem dX12_mean_12 : decode cX12_mean 12 = .ok (.ifCond .ne 7, 3) := by decide +kernel
theorem dX12_mean_15 : decode cX12_mean 15 = .ok (.ldc2_w 318, 3) := by decide +kernel
theorem dX12_mean_18 : decode cX12_mean 18 = .ok (.lreturn, 1) := by decide +kernel
theorem dX12_mean_19 : decode cX12_mean 19 = .ok (.iload_n 1, 1) := by decide +kernel
theorem dX12_mean_20 : decode cX12_mean 20 = .ok (.iload_n 2, 1) := by decide +kernel
theorem dX12_mean_21 : decode cX12_mean 21 = .ok (.invokestatic 464, 3) := by decide +kernel
theorem dX12_mean_24 : decode cX12_mean 24 = .ok (.ifCond .ne 7, 3) := by decide +kernel
theorem dX12_mean_27 : decode cX12_mean 27 = .ok (.ldc2_w 411, 3) := by decide +kernel
theorem dX12_mean_30 : decode cX12_mean 30 = .ok (.lreturn, 1) := by decide +kernel
theorem dX12_mean_31 : decode cX12_mean 31 = .ok (.aload_n 0, 1) := by decide +kernel
theorem dX12_mean_32 : decode cX12_mean 32 = .ok (.iload_n 1, 1) := by decide +kernel
theorem dX12_mean_33 : decode cX12_mean 33 = .ok (.lconst 0, 1) := by decide +kernel
theorem dX12_mean_34 : decode cX12_mean 34 = .ok (.iload_n 2, 1) := by decide +kernel
theorem dX12_mean_35 : decode cX12_mean 35 = .ok (.invokevirtual 467, 3) := by decide +kernel
theorem dX12_mean_38 : decode cX12_mean 38 = .ok (.iload_n 3, 1) := by decide +kernel
theorem dX12_mean_39 : decode cX12_mean 39 = .ok (.ifCond .ne 10, 3) := by decide +kernel
theorem dX12_mean_42 : decode cX12_mean 42 = .ok (.aload_n 0, 1) := by decide +kernel
theorem dX12_mean_43 : decode cX12_mean 43 = .ok (.getfield 454, 3) := by decide +kernel
theorem dX12_mean_46 : decode cX12_mean 46 = .ok (.goto 7, 3) := by decide +kernel
theorem dX12_mean_49 : decode cX12_mean 49 = .ok (.iload_n 2, 1) := by decide +kernel
theorem dX12_mean_50 : decode cX12_mean 50 = .ok (.invokestatic 471, 3) := by decide +kernel
theorem dX12_mean_53 : decode cX12_mean 53 = .ok (.aload_n 0, 1) := by decide +kernel
theorem dX12_mean_54 : decode cX12_mean 54 = .ok (.getfield 454, 3) := by decide +kernel
theorem dX12_mean_57 : decode cX12_mean 57 = .ok (.iload_n 2, 1) := by decide +kernel
theorem dX12_mean_58 : decode cX12_mean 58 = .ok (.invokestatic 471, 3) := by decide +kernel
theorem dX12_mean_61 : decode cX12_mean 61 = .ok (.invokestatic 461, 3) := by decide +kernel
theorem dX12_mean_64 : decode cX12_mean 64 = .ok (.ldiv, 1) := by decide +kernel
theorem dX12_mean_65 : decode cX12_mean 65 = .ok (.lreturn, 1) := by decide +kernel
def f_X12_mean_53   (v2 : Int32) (s0 : Int64) (m : zz_Mem) : Option (Int64 × zz_Mem) :=
  zz_bndR (f_X12_wholeOf v2) fun r1 =>
  zz_bndR (F_X12_common (m.2.1 0 38) r1) fun r2 =>
  zz_nzJ r2 <|
  some (s0 / r2, m)
theorem t_X12_mean_53 {l : Launch} {G : zz_G} (hN : 26 ≤ zz_N G)  : ∀ (v2 : Int32) (s0 : Int64) (m : zz_Mem), zz_Sim zz_shM l G mX12_mean 201 zz_vJ zz_m2 (f_X12_mean_53 v2 s0 m) 53 [(0, .ref (zz_a G 0)), (2, .int v2)] [.long s0] m := by
  intro v2 s0 m
  unfold f_X12_mean_53
  refine zs_aload_n dX12_mean_53 rfl 0 rfl ?_
  refine zs_getJ fl_X12_454 dX12_mean_54 (shm_0 hN) rfl ?_
  refine zs_iload_n dX12_mean_57 rfl 1 rfl ?_
  refine zs_cS_jR (rest := [.long (m.2.1 0 38), .long s0]) (k_X12_wholeOf hN _ _) dX12_mean_58 ls_X12_471 ok_X12_wholeOf (Nat.le_of_ble_eq_true rfl) rfl rfl (Nat.le_of_ble_eq_true rfl) (fun r1 => ?_)
  refine zs_cS_jR (rest := [.long s0]) (K_X12_common hN _ _ _) dX12_mean_61 ls_X12_461 ok_X12_common (Nat.le_of_ble_eq_true rfl) rfl rfl (Nat.le_of_ble_eq_true rfl) (fun r2 => ?_)
  refine zs_ldivG dX12_mean_64 ?_
  exact zs_lret dX12_mean_65 rfl rfl rfl
def f_X12_mean  (p1 : Int32) (p2 : Int32) (p3 : Int32) (m : zz_Mem) : Option (Int64 × zz_Mem) :=
  zz_letM (zz_setI m 0 0 (0 : Int32)) fun m1 =>
  zz_bndR (f_X12_within p3.toInt64 (0 : Int64) (1 : Int64)) fun r2 =>
  if r2 = 0 then (
  some ((-9000000000000000002 : Int64), m1))
  else (
  zz_bndR (f_X12_isLots p1 p2) fun r3 =>
  if r3 = 0 then (
  some ((-9000000000000000003 : Int64), m1))
  else (
  zz_bndR (f_X12_laysLots p1 (0 : Int64) p2 m1) fun m4 =>
  if p3 = 0 then (
  f_X12_mean_53 p2 (m4.2.1 0 38) m4)
  else (
  zz_bndR (f_X12_wholeOf p2) fun r5 =>
  f_X12_mean_53 p2 r5 m4)))
theorem k_X12_mean {l : Launch} {G : zz_G} (hN : 26 ≤ zz_N G) : ∀ (p1 : Int32) (p2 : Int32) (p3 : Int32) (m : zz_Mem), zz_Con zz_shM l G mX12_mean 201 [.ref (zz_a G 0), .int p1, .int p2, .int p3] zz_vJ zz_m2 (f_X12_mean p1 p2 p3 m) m := by
  intro p1 p2 p3 m
  refine zz_con (lv := [(0, .ref (zz_a G 0)), (1, .int p1), (2, .int p2), (3, .int p3)]) (by decide +kernel) (Nat.le_of_ble_eq_true rfl) rfl ?_
  unfold f_X12_mean
  refine zs_aload_n dX12_mean_0 rfl 0 rfl ?_
  refine zs_iconst (v := (0 : Int32)) dX12_mean_1 ci_0 ?_
  refine zs_putI fl_X12_1 dX12_mean_2 (shm_0 hN) rfl ⟨rfl, rfl⟩ (fun m1 => ?_)
  refine zs_iload_n dX12_mean_5 rfl 3 rfl ?_
  refine zs_i2l dX12_mean_6 ?_
  refine zs_lconst (v := (0 : Int64)) dX12_mean_7 rfl ?_
  refine zs_lconst (v := (1 : Int64)) dX12_mean_8 rfl ?_
  refine zs_cS_iR (rest := []) (k_X12_within hN _ _ _ _) dX12_mean_9 ls_X12_163 ok_X12_within (Nat.le_of_ble_eq_true rfl) rfl rfl (Nat.le_of_ble_eq_true rfl) (fun r2 => ?_)
  refine zs_if_ne (tgt := 19) dX12_mean_12 (by decide) ?_ ?_
  · refine zs_iload_n dX12_mean_19 rfl 1 rfl ?_
    refine zs_iload_n dX12_mean_20 rfl 2 rfl ?_
    refine zs_cS_iR (rest := []) (k_X12_isLots hN _ _ _) dX12_mean_21 ls_X12_464 ok_X12_isLots (Nat.le_of_ble_eq_true rfl) rfl rfl (Nat.le_of_ble_eq_true rfl) (fun r3 => ?_)
    refine zs_if_ne (tgt := 31) dX12_mean_24 (by decide) ?_ ?_
    · refine zs_aload_n dX12_mean_31 rfl 0 rfl ?_
      refine zs_iload_n dX12_mean_32 rfl 1 rfl ?_
      refine zs_lconst (v := (0 : Int64)) dX12_mean_33 rfl ?_
      refine zs_iload_n dX12_mean_34 rfl 2 rfl ?_
      refine zs_cV_vW (rest := []) (k_X12_laysLots hN _ _ _ _) dX12_mean_35 lv_X12_467 ok_X12_laysLots (zz_rcv_o (shm_0 hN) rfl) (Nat.le_of_ble_eq_true rfl) rfl rfl (Nat.le_of_ble_eq_true rfl) (fun m4 => ?_)
      refine zs_iload_n dX12_mean_38 rfl 3 rfl ?_
      refine zs_if_ne (tgt := 49) dX12_mean_39 (by decide) ?_ ?_
      · refine zs_iload_n dX12_mean_49 rfl 2 rfl ?_
        refine zs_cS_jR (rest := []) (k_X12_wholeOf hN _ _) dX12_mean_50 ls_X12_471 ok_X12_wholeOf (Nat.le_of_ble_eq_true rfl) rfl rfl (Nat.le_of_ble_eq_true rfl) (fun r5 => ?_)
        refine zs_sub [0, 2] rfl ?_
        exact t_X12_mean_53 hN _ _ _
      · refine zs_aload_n dX12_mean_42 rfl 0 rfl ?_
        refine zs_getJ fl_X12_454 dX12_mean_43 (shm_0 hN) rfl ?_
        refine zs_goto (tgt := 53) dX12_mean_46 (by decide) ?_
        refine zs_sub [0, 2] rfl ?_
        exact t_X12_mean_53 hN _ _ _
    · refine zs_ldc2 (v := (-9000000000000000003 : Int64)) dX12_mean_27 kc_X12_411 ?_
      exact zs_lret dX12_mean_30 rfl rfl rfl
  · refine zs_ldc2 (v := (-9000000000000000002 : Int64)) dX12_mean_15 kc_X12_318 ?_
    exact zs_lret dX12_mean_18 rfl rfl rfl
/-! X12_cut: PillarDeskModel.cut(JI)J -/
theorem dX12_cut_0 : decode cX12_cut 0 = .ok (.iload_n 2, 1) := by decide +kernel
theorem dX12_cut_1 : decode cX12_cut 1 = .ok (.ifCond .ne 10, 3) := by decide +kernel
theorem dX12_cut_4 : decode cX12_cut 4 = .ok (.lload_n 0, 1) := by decide +kernel
theorem dX12_cut_5 : decode cX12_cut 5 = .ok (.l2i, 1) := by decide +kernel
theorem dX12_cut_6 : decode cX12_cut 6 = .ok (.i2b, 1) := by decide +kernel
theorem dX12_cut_7 : decode cX12_cut 7 = .ok (.i2l, 1) := by decide +kernel
theorem dX12_cut_8 : decode cX12_cut 8 = .ok (.goto 27, 3) := by decide +kernel
theorem dX12_cut_11 : decode cX12_cut 11 = .ok (.iload_n 2, 1) := by decide +kernel
theorem dX12_cut_12 : decode cX12_cut 12 = .ok (.iconst 1, 1) := by decide +kernel
theorem dX12_cut_13 : decode cX12_cut 13 = .ok (.if_icmp .ne 10, 3) := by decide +kernel
theorem dX12_cut_16 : decode cX12_cut 16 = .ok (.lload_n 0, 1) := by decide +kernel
theorem dX12_cut_17 : decode cX12_cut 17 = .ok (.l2i, 1) := by decide +kernel
theorem dX12_cut_18 : decode cX12_cut 18 = .ok (.i2s, 1) := by decide +kernel
theorem dX12_cut_19 : decode cX12_cut 19 = .ok (.i2l, 1) := by decide +kernel
theorem dX12_cut_20 : decode cX12_cut 20 = .ok (.goto 15, 3) := by decide +kernel
theorem dX12_cut_23 : decode cX12_cut 23 = .ok (.iload_n 2, 1) := by decide +kernel
theorem dX12_cut_24 : decode cX12_cut 24 = .ok (.iconst 2, 1) := by decide +kernel
theorem dX12_cut_25 : decode cX12_cut 25 = .ok (.if_icmp .ne 9, 3) := by decide +kernel
theorem dX12_cut_28 : decode cX12_cut 28 = .ok (.lload_n 0, 1) := by decide +kernel
theorem dX12_cut_29 : decode cX12_cut 29 = .ok (.l2i, 1) := by decide +kernel
theorem dX12_cut_30 : decode cX12_cut 30 = .ok (.i2l, 1) := by decide +kernel
theorem dX12_cut_31 : decode cX12_cut 31 = .ok (.goto 4, 3) := by decide +kernel
theorem dX12_cut_34 : decode cX12_cut 34 = .ok (.lload_n 0, 1) := by decide +kernel
theorem dX12_cut_35 : decode cX12_cut 35 = .ok (.lreturn, 1) := by decide +kernel
def f_X12_cut  (p0 : Int64) (p2 : Int32) : Option Int64 :=
  if p2 = 0 then (
  some p0.toInt32.toInt8.toInt32.toInt64)
  else (
  if p2 = (1 : Int32) then (
  some p0.toInt32.toInt16.toInt32.toInt64)
  else (
  if p2 = (2 : Int32) then (
  some p0.toInt32.toInt64)
  else (
  some p0)))
theorem k_X12_cut {l : Launch} {G : zz_G} (hN : 26 ≤ zz_N G) : ∀ (p0 : Int64) (p2 : Int32) (m : zz_Mem), zz_Con zz_shM l G mX12_cut 0 [.long p0, .int p2] zz_vJr (zz_mC m) (f_X12_cut p0 p2) m := by
  intro p0 p2 m
  refine zz_con (lv := [(0, .long p0), (2, .int p2)]) (by decide +kernel) (Nat.le_of_ble_eq_true rfl) rfl ?_
  unfold f_X12_cut
  refine zs_iload_n dX12_cut_0 rfl 1 rfl ?_
  refine zs_if_ne (tgt := 11) dX12_cut_1 (by decide) ?_ ?_
  · refine zs_iload_n dX12_cut_11 rfl 1 rfl ?_
    refine zs_iconst (v := (1 : Int32)) dX12_cut_12 ci_1 ?_
    refine zs_icmp_ne (tgt := 23) dX12_cut_13 (by decide) ?_ ?_
    · refine zs_iload_n dX12_cut_23 rfl 1 rfl ?_
      refine zs_iconst (v := (2 : Int32)) dX12_cut_24 ci_2 ?_
      refine zs_icmp_ne (tgt := 34) dX12_cut_25 (by decide) ?_ ?_
      · refine zs_lload_n dX12_cut_34 rfl 0 rfl ?_
        exact zs_lret dX12_cut_35 rfl rfl rfl
      · refine zs_lload_n dX12_cut_28 rfl 0 rfl ?_
        refine zs_l2i dX12_cut_29 ?_
        refine zs_i2l dX12_cut_30 ?_
        refine zs_goto (tgt := 35) dX12_cut_31 (by decide) ?_
        exact zs_lret dX12_cut_35 rfl rfl rfl
    · refine zs_lload_n dX12_cut_16 rfl 0 rfl ?_
      refine zs_l2i dX12_cut_17 ?_
      refine zs_i2s dX12_cut_18 ?_
      refine zs_i2l dX12_cut_19 ?_
      refine zs_goto (tgt := 35) dX12_cut_20 (by decide) ?_
      exact zs_lret dX12_cut_35 rfl rfl rfl
  · refine zs_lload_n dX12_cut_4 rfl 0 rfl ?_
    refine zs_l2i dX12_cut_5 ?_
    refine zs_i2b dX12_cut_6 ?_
    refine zs_i2l dX12_cut_7 ?_
    refine zs_goto (tgt := 35) dX12_cut_8 (by decide) ?_
    exact zs_lret dX12_cut_35 rfl rfl rfl
/-! X12_numbers: PillarDeskModel.numbers(III)I -/
theorem dX12_numbers_0 : decode cX12_numbers 0 = .ok (.aload_n 0, 1) := by decide +kernel
theorem dX12_numbers_1 : decode cX12_numbers 1 = .ok (.iconst 0, 1) := by decide +kernel
theorem dX12_numbers_2 : decode cX12_numbers 2 = .ok (.putfield 1, 3) := by decide +kernel
theorem dX12_numbers_5 : decode cX12_numbers 5 = .ok (.iload_n 1, 1) := by decide +kernel
theorem dX12_numbers_6 : decode cX12_numbers 6 = .ok (.i2l, 1) := by decide +kernel
theorem dX12_numbers_7 : decode cX12_numbers 7 = .ok (.lconst 0, 1) := by decide +kernel
theorem dX12_numbers_8 : decode cX12_numbers 8 = .ok (.ldc2_w 363, 3) := by decide +kernel
theorem dX12_numbers_11 : decode cX12_numbers 11 = .ok (.invokestatic 163, 3) := by decide +kernel
theorem dX12_numbers_14 : decode cX12_numbers 14 = .ok (.ifCond .eq 15, 3) := by decide +kernel
theorem dX12_numbers_17 : decode cX12_numbers 17 = .ok (.iload_n 2, 1) := by decide +kernel
theorem dX12_numbers_18 : decode cX12_numbers 18 = .ok (.i2l, 1) := by decide +kernel
theorem dX12_numbers_19 : decode cX12_numbers 19 = .ok (.lconst 0, 1) := by decide +kernel
theorem dX12_numbers_20 : decode cX12_numbers 20 = .ok (.ldc2_w 363, 3) := by decide +kernel
theorem dX12_numbers_23 : decode cX12_numbers 23 = .ok (.invokestatic 163, 3) := by decide +kernel
theorem dX12_numbers_26 : decode cX12_numbers 26 = .ok (.ifCond .ne 6, 3) := by decide +kernel
theorem dX12_numbers_29 : decode cX12_numbers 29 = .ok (.bipush (-2), 2) := by decide +kernel
theorem dX12_numbers_31 : decode cX12_numbers 31 = .ok (.ireturn, 1) := by decide +kernel
theorem dX12_numbers_32 : decode cX12_numbers 32 = .ok (.iload_n 3, 1) := by decide +kernel
theorem dX12_numbers_33 : decode cX12_numbers 33 = .ok (.i2l, 1) := by decide +kernel
theorem dX12_numbers_34 : decode cX12_numbers 34 = .ok (.lconst 0, 1) := by decide +kernel
theorem dX12_numbers_35 : decode cX12_numbers 35 = .ok (.ldc2_w 384, 3) := by decide +kernel
theorem dX12_numbers_38 : decode cX12_numbers 38 = .ok (.invokestatic 163, 3) := by decide +kernel
theorem dX12_numbers_41 : decode cX12_numbers 41 = .ok (.ifCond .ne 6, 3) := by decide +kernel
theorem dX12_numbers_44 : decode cX12_numbers 44 = .ok (.bipush (-3), 2) := by decide +kernel
theorem dX12_numbers_46 : decode cX12_numbers 46 = .ok (.ireturn, 1) := by decide +kernel
theorem dX12_numbers_47 : decode cX12_numbers 47 = .ok (.aload_n 0, 1) := by decide +kernel
theorem dX12_numbers_48 : decode cX12_numbers 48 = .ok (.getfield 85, 3) := by decide +kernel
theorem dX12_numbers_51 : decode cX12_numbers 51 = .ok (.iload_n 1, 1) := by decide +kernel
theorem dX12_numbers_52 : decode cX12_numbers 52 = .ok (.iload_n 2, 1) := by decide +kernel
theorem dX12_numbers_53 : decode cX12_numbers 53 = .ok (.iastore, 1) := by decide +kernel
theorem dX12_numbers_54 : decode cX12_numbers 54 = .ok (.aload_n 0, 1) := by decide +kernel
theorem dX12_numbers_55 : decode cX12_numbers 55 = .ok (.getfield 88, 3) := by decide +kernel
theorem dX12_numbers_58 : decode cX12_numbers 58 = .ok (.iload_n 1, 1) := by decide +kernel
theorem dX12_numbers_59 : decode cX12_numbers 59 = .ok (.iload_n 3, 1) := by decide +kernel
theorem dX12_numbers_60 : decode cX12_numbers 60 = .ok (.iastore, 1) := by decide +kernel
theorem dX12_numbers_61 : decode cX12_numbers 61 = .ok (.iconst 0, 1) := by decide +kernel
theorem dX12_numbers_62 : decode cX12_numbers 62 = .ok (.istore 4, 2) := by decide +kernel
theorem dX12_numbers_64 : decode cX12_numbers 64 = .ok (.iload 4, 2) := by decide +kernel
theorem dX12_numbers_66 : decode cX12_numbers 66 = .ok (.iload_n 3, 1) := by decide +kernel
theorem dX12_numbers_67 : decode cX12_numbers 67 = .ok (.if_icmp .ge 22, 3) := by decide +kernel
theorem dX12_numbers_70 : decode cX12_numbers 70 = .ok (.aload_n 0, 1) := by decide +kernel
theorem dX12_numbers_71 : decode cX12_numbers 71 = .ok (.getfield 91, 3) := by decide +kernel
theorem dX12_numbers_74 : decode cX12_numbers 74 = .ok (.bipush 40, 2) := by decide +kernel
theorem dX12_numbers_76 : decode cX12_numbers 76 = .ok (.iload_n 1, 1) := by decide +kernel
theorem dX12_numbers_77 : decode cX12_numbers 77 = .ok (.imul, 1) := by decide +kernel
theorem dX12_numbers_78 : decode cX12_numbers 78 = .ok (.iload 4, 2) := by decide +kernel
theorem dX12_numbers_80 : decode cX12_numbers 80 = .ok (.iadd, 1) := by decide +kernel
theorem dX12_numbers_81 : decode cX12_numbers 81 = .ok (.lconst 0, 1) := by decide +kernel
theorem dX12_numbers_82 : decode cX12_numbers 82 = .ok (.lastore, 1) := by decide +kernel
theorem dX12_numbers_83 : decode cX12_numbers 83 = .ok (.iinc 4 1, 3) := by decide +kernel
theorem dX12_numbers_86 : decode cX12_numbers 86 = .ok (.goto (-22), 3) := by decide +kernel
theorem dX12_numbers_89 : decode cX12_numbers 89 = .ok (.iconst 0, 1) := by decide +kernel
theorem dX12_numbers_90 : decode cX12_numbers 90 = .ok (.ireturn, 1) := by decide +kernel
def f_X12_numbers_64   : Nat → Int32 → Int32 → Int32 → zz_Mem → Option (Int32 × zz_Mem)
  | 0, _, _, _, _ => none
  | n + 1, v1, v3, v4, m =>
  if v3 ≤ v4 then (
  some ((0 : Int32), m))
  else (
  zz_ix (((40 : Int32) * v1) + v4) 160 <| zz_letM (zz_setJ m 25 (((40 : Int32) * v1) + v4).toNatClampNeg (0 : Int64)) fun m1 =>
  zz_letI (v4 + (1 : Int32)) fun x2 =>
  f_X12_numbers_64 n v1 v3 x2 m1)
theorem t_X12_numbers_64 {l : Launch} {G : zz_G} (hN : 26 ≤ zz_N G)  : ∀ (n : Nat) (v1 : Int32) (v3 : Int32) (v4 : Int32) (m : zz_Mem), zz_Sim zz_shM l G mX12_numbers 1 zz_vI zz_m2 (f_X12_numbers_64 n v1 v3 v4 m) 64 [(0, .ref (zz_a G 0)), (1, .int v1), (3, .int v3), (4, .int v4)] [] m := by
  intro n
  induction n with
  | zero => intro _ _ _ _; exact zs_none
  | succ n ih =>
    intro v1 v3 v4 m
    rw [f_X12_numbers_64]
    refine zs_iload dX12_numbers_64 3 rfl ?_
    refine zs_iload_n dX12_numbers_66 rfl 2 rfl ?_
    refine zs_icmp_ge (tgt := 89) dX12_numbers_67 (by decide) ?_ ?_
    · refine zs_iconst (v := (0 : Int32)) dX12_numbers_89 ci_0 ?_
      exact zs_iret dX12_numbers_90 rfl rfl rfl
    · refine zs_aload_n dX12_numbers_70 rfl 0 rfl ?_
      refine zs_getR fl_X12_91 dX12_numbers_71 (shm_0 hN) rfl ?_
      refine zs_bipush (v := (40 : Int32)) dX12_numbers_74 cb_40 ?_
      refine zs_iload_n dX12_numbers_76 rfl 1 rfl ?_
      refine zs_imul dX12_numbers_77 ?_
      refine zs_iload dX12_numbers_78 3 rfl ?_
      refine zs_iadd dX12_numbers_80 ?_
      refine zs_lconst (v := (0 : Int64)) dX12_numbers_81 rfl ?_
      refine zs_lastG dX12_numbers_82 (shm_25 hN) (fun m1 => ?_)
      refine zs_iinc (fun y => [(4, .int y), (0, .ref (zz_a G 0)), (1, .int v1), (3, .int v3)]) dX12_numbers_83 3 rfl ci_1 (Nat.le_of_ble_eq_true rfl) (fun _ => rfl) (fun x2 => ?_)
      refine zs_goto (tgt := 64) dX12_numbers_86 (by decide) ?_
      refine zs_sub [1, 2, 3, 0] rfl ?_
      exact ih _ _ _ _
def f_X12_numbers  (p1 : Int32) (p2 : Int32) (p3 : Int32) (m : zz_Mem) : Option (Int32 × zz_Mem) :=
  zz_letM (zz_setI m 0 0 (0 : Int32)) fun m1 =>
  zz_bndR (f_X12_within p1.toInt64 (0 : Int64) (3 : Int64)) fun r2 =>
  if r2 = 0 then (
  some ((-2 : Int32), m1))
  else (
  zz_bndR (f_X12_within p2.toInt64 (0 : Int64) (3 : Int64)) fun r3 =>
  if r3 = 0 then (
  some ((-2 : Int32), m1))
  else (
  zz_bndR (f_X12_within p3.toInt64 (0 : Int64) (40 : Int64)) fun r4 =>
  if r4 = 0 then (
  some ((-3 : Int32), m1))
  else (
  zz_ix p1 4 <| zz_letM (zz_setI m1 23 p1.toNatClampNeg p2) fun m5 =>
  zz_ix p1 4 <| zz_letM (zz_setI m5 24 p1.toNatClampNeg p3) fun m6 =>
  f_X12_numbers_64 zz_fuel p1 p3 (0 : Int32) m6)))
theorem k_X12_numbers {l : Launch} {G : zz_G} (hN : 26 ≤ zz_N G) : ∀ (p1 : Int32) (p2 : Int32) (p3 : Int32) (m : zz_Mem), zz_Con zz_shM l G mX12_numbers 1 [.ref (zz_a G 0), .int p1, .int p2, .int p3] zz_vI zz_m2 (f_X12_numbers p1 p2 p3 m) m := by
  intro p1 p2 p3 m
  refine zz_con (lv := [(0, .ref (zz_a G 0)), (1, .int p1), (2, .int p2), (3, .int p3)]) (by decide +kernel) (Nat.le_of_ble_eq_true rfl) rfl ?_
  unfold f_X12_numbers
  refine zs_aload_n dX12_numbers_0 rfl 0 rfl ?_
  refine zs_iconst (v := (0 : Int32)) dX12_numbers_1 ci_0 ?_
  refine zs_putI fl_X12_1 dX12_numbers_2 (shm_0 hN) rfl ⟨rfl, rfl⟩ (fun m1 => ?_)
  refine zs_iload_n dX12_numbers_5 rfl 1 rfl ?_
  refine zs_i2l dX12_numbers_6 ?_
  refine zs_lconst (v := (0 : Int64)) dX12_numbers_7 rfl ?_
  refine zs_ldc2 (v := (3 : Int64)) dX12_numbers_8 kc_X12_363 ?_
  refine zs_cS_iR (rest := []) (k_X12_within hN _ _ _ _) dX12_numbers_11 ls_X12_163 ok_X12_within (Nat.le_of_ble_eq_true rfl) rfl rfl (Nat.le_of_ble_eq_true rfl) (fun r2 => ?_)
  refine zs_if_eq (tgt := 29) dX12_numbers_14 (by decide) ?_ ?_
  · refine zs_bipush (v := (-2 : Int32)) dX12_numbers_29 cb_m2 ?_
    exact zs_iret dX12_numbers_31 rfl rfl rfl
  · refine zs_iload_n dX12_numbers_17 rfl 2 rfl ?_
    refine zs_i2l dX12_numbers_18 ?_
    refine zs_lconst (v := (0 : Int64)) dX12_numbers_19 rfl ?_
    refine zs_ldc2 (v := (3 : Int64)) dX12_numbers_20 kc_X12_363 ?_
    refine zs_cS_iR (rest := []) (k_X12_within hN _ _ _ _) dX12_numbers_23 ls_X12_163 ok_X12_within (Nat.le_of_ble_eq_true rfl) rfl rfl (Nat.le_of_ble_eq_true rfl) (fun r3 => ?_)
    refine zs_if_ne (tgt := 32) dX12_numbers_26 (by decide) ?_ ?_
    · refine zs_iload_n dX12_numbers_32 rfl 3 rfl ?_
      refine zs_i2l dX12_numbers_33 ?_
      refine zs_lconst (v := (0 : Int64)) dX12_numbers_34 rfl ?_
      refine zs_ldc2 (v := (40 : Int64)) dX12_numbers_35 kc_X12_384 ?_
      refine zs_cS_iR (rest := []) (k_X12_within hN _ _ _ _) dX12_numbers_38 ls_X12_163 ok_X12_within (Nat.le_of_ble_eq_true rfl) rfl rfl (Nat.le_of_ble_eq_true rfl) (fun r4 => ?_)
      refine zs_if_ne (tgt := 47) dX12_numbers_41 (by decide) ?_ ?_
      · refine zs_aload_n dX12_numbers_47 rfl 0 rfl ?_
        refine zs_getR fl_X12_85 dX12_numbers_48 (shm_0 hN) rfl ?_
        refine zs_iload_n dX12_numbers_51 rfl 1 rfl ?_
        refine zs_iload_n dX12_numbers_52 rfl 2 rfl ?_
        refine zs_iastG dX12_numbers_53 (shm_23 hN) (fun m5 => ?_)
        refine zs_aload_n dX12_numbers_54 rfl 0 rfl ?_
        refine zs_getR fl_X12_88 dX12_numbers_55 (shm_0 hN) rfl ?_
        refine zs_iload_n dX12_numbers_58 rfl 1 rfl ?_
        refine zs_iload_n dX12_numbers_59 rfl 3 rfl ?_
        refine zs_iastG dX12_numbers_60 (shm_24 hN) (fun m6 => ?_)
        refine zs_iconst (v := (0 : Int32)) dX12_numbers_61 ci_0 ?_
        refine zs_istore [(4, .int (0 : Int32)), (0, .ref (zz_a G 0)), (1, .int p1), (2, .int p2), (3, .int p3)] dX12_numbers_62 (Nat.le_of_ble_eq_true rfl) rfl ?_
        refine zs_sub [1, 2, 4, 0] rfl ?_
        exact t_X12_numbers_64 hN zz_fuel _ _ _ _
      · refine zs_bipush (v := (-3 : Int32)) dX12_numbers_44 cb_m3 ?_
        exact zs_iret dX12_numbers_46 rfl rfl rfl
    · refine zs_bipush (v := (-2 : Int32)) dX12_numbers_29 cb_m2 ?_
      exact zs_iret dX12_numbers_31 rfl rfl rfl
/-! X12_write: PillarDeskModel.write(IIJ)J -/
theorem dX12_write_0 : decode cX12_write 0 = .ok (.aload_n 0, 1) := by decide +kernel
theorem dX12_write_1 : decode cX12_write 1 = .ok (.iconst 0, 1) := by decide +kernel
theorem dX12_write_2 : decode cX12_write 2 = .ok (.putfield 1, 3) := by decide +kernel
theorem dX12_write_5 : decode cX12_write 5 = .ok (.aload_n 0, 1) := by decide +kernel
theorem dX12_write_6 : decode cX12_write 6 = .ok (.iload_n 1, 1) := by decide +kernel
theorem dX12_write_7 : decode cX12_write 7 = .ok (.invokevirtual 365, 3) := by decide +kernel
theorem dX12_write_10 : decode cX12_write 10 = .ok (.istore 5, 2) := by decide +kernel
theorem dX12_write_12 : decode cX12_write 12 = .ok (.iload 5, 2) := by decide +kernel
theorem dX12_write_14 : decode cX12_write 14 = .ok (.ifCond .eq 7, 3) := by decide +kernel
theorem dX12_write_17 : decode cX12_write 17 = .ok (.iload 5, 2) := by decide +kernel
theorem dX12_write_19 : decode cX12_write 19 = .ok (.i2l, 1) := by decide +kernel
theorem dX12_write_20 : decode cX12_write 20 = .ok (.lreturn, 1) := by decide +kernel
theorem dX12_write_21 : decode cX12_write 21 = .ok (.iload_n 2, 1) := by decide +kernel
theorem dX12_write_22 : decode cX12_write 22 = .ok (.i2l, 1) := by decide +kernel
theorem dX12_write_23 : decode cX12_write 23 = .ok (.lconst 0, 1) := by decide +kernel
theorem dX12_write_24 : decode cX12_write 24 = .ok (.aload_n 0, 1) := by decide +kernel
theorem dX12_write_25 : decode cX12_write 25 = .ok (.getfield 88, 3) := by decide +kernel
theorem dX12_write_28 : decode cX12_write 28 = .ok (.iload_n 1, 1) := by decide +kernel
theorem dX12_write_29 : decode cX12_write 29 = .ok (.iaload, 1) := by decide +kernel
theorem dX12_write_30 : decode cX12_write 30 = .ok (.iconst 1, 1) := by decide +kernel
theorem dX12_write_31 : decode cX12_write 31 = .ok (.isub, 1) := by decide +kernel
theorem dX12_write_32 : decode cX12_write 32 = .ok (.i2l, 1) := by decide +kernel
theorem dX12_write_33 : decode cX12_write 33 = .ok (.invokestatic 163, 3) := by decide +kernel
theorem dX12_write_36 : decode cX12_write 36 = .ok (.ifCond .ne 7, 3) := by decide +kernel
theorem dX12_write_39 : decode cX12_write 39 = .ok (.ldc2_w 474, 3) := by decide +kernel
theorem dX12_write_42 : decode cX12_write 42 = .ok (.lreturn, 1) := by decide +kernel
theorem dX12_write_43 : decode cX12_write 43 = .ok (.aload_n 0, 1) := by decide +kernel
theorem dX12_write_44 : decode cX12_write 44 = .ok (.getfield 91, 3) := by decide +kernel
theorem dX12_write_47 : decode cX12_write 47 = .ok (.bipush 40, 2) := by decide +kernel
theorem dX12_write_49 : decode cX12_write 49 = .ok (.iload_n 1, 1) := by decide +kernel
theorem dX12_write_50 : decode cX12_write 50 = .ok (.imul, 1) := by decide +kernel
theorem dX12_write_51 : decode cX12_write 51 = .ok (.iload_n 2, 1) := by decide +kernel
theorem dX12_write_52 : decode cX12_write 52 = .ok (.iadd, 1) := by decide +kernel
theorem dX12_write_53 : decode cX12_write 53 = .ok (.lload_n 3, 1) := by decide +kernel
theorem dX12_write_54 : decode cX12_write 54 = .ok (.aload_n 0, 1) := by decide +kernel
theorem dX12_write_55 : decode cX12_write 55 = .ok (.getfield 85, 3) := by decide +kernel
theorem dX12_write_58 : decode cX12_write 58 = .ok (.iload_n 1, 1) := by decide +kernel
theorem dX12_write_59 : decode cX12_write 59 = .ok (.iaload, 1) := by decide +kernel
theorem dX12_write_60 : decode cX12_write 60 = .ok (.invokestatic 476, 3) := by decide +kernel
theorem dX12_write_63 : decode cX12_write 63 = .ok (.lastore, 1) := by decide +kernel
theorem dX12_write_64 : decode cX12_write 64 = .ok (.aload_n 0, 1) := by decide +kernel
theorem dX12_write_65 : decode cX12_write 65 = .ok (.getfield 91, 3) := by decide +kernel
theorem dX12_write_68 : decode cX12_write 68 = .ok (.bipush 40, 2) := by decide +kernel
theorem dX12_write_70 : decode cX12_write 70 = .ok (.iload_n 1, 1) := by decide +kernel
theorem dX12_write_71 : decode cX12_write 71 = .ok (.imul, 1) := by decide +kernel
theorem dX12_write_72 : decode cX12_write 72 = .ok (.iload_n 2, 1) := by decide +kernel
theorem dX12_write_73 : decode cX12_write 73 = .ok (.iadd, 1) := by decide +kernel
theorem dX12_write_74 : decode cX12_write 74 = .ok (.laload, 1) := by decide +kernel
theorem dX12_write_75 : decode cX12_write 75 = .ok (.lreturn, 1) := by decide +kernel
def f_X12_write  (p1 : Int32) (p2 : Int32) (p3 : Int64) (m : zz_Mem) : Option (Int64 × zz_Mem) :=
  zz_letM (zz_setI m 0 0 (0 : Int32)) fun m1 =>
  zz_bndR (f_X12_noTray m1 p1) fun r2 =>
  if r2 = 0 then (
  zz_ix p1 4 <|
  zz_bndR (f_X12_within p2.toInt64 (0 : Int64) (((m1.1 24 p1.toNatClampNeg) - (1 : Int32)).toInt64)) fun r3 =>
  if r3 = 0 then (
  some ((-7 : Int64), m1))
  else (
  zz_ix p1 4 <|
  zz_bndR (f_X12_cut p3 (m1.1 23 p1.toNatClampNeg)) fun r4 =>
  zz_ix (((40 : Int32) * p1) + p2) 160 <| zz_letM (zz_setJ m1 25 (((40 : Int32) * p1) + p2).toNatClampNeg r4) fun m5 =>
  zz_ix (((40 : Int32) * p1) + p2) 160 <|
  some (m5.2.1 25 (((40 : Int32) * p1) + p2).toNatClampNeg, m5)))
  else (
  some (r2.toInt64, m1))
theorem k_X12_write {l : Launch} {G : zz_G} (hN : 26 ≤ zz_N G) : ∀ (p1 : Int32) (p2 : Int32) (p3 : Int64) (m : zz_Mem), zz_Con zz_shM l G mX12_write 2 [.ref (zz_a G 0), .int p1, .int p2, .long p3] zz_vJ zz_m2 (f_X12_write p1 p2 p3 m) m := by
  intro p1 p2 p3 m
  refine zz_con (lv := [(0, .ref (zz_a G 0)), (1, .int p1), (2, .int p2), (3, .long p3)]) (by decide +kernel) (Nat.le_of_ble_eq_true rfl) rfl ?_
  unfold f_X12_write
  refine zs_aload_n dX12_write_0 rfl 0 rfl ?_
  refine zs_iconst (v := (0 : Int32)) dX12_write_1 ci_0 ?_
  refine zs_putI fl_X12_1 dX12_write_2 (shm_0 hN) rfl ⟨rfl, rfl⟩ (fun m1 => ?_)
  refine zs_aload_n dX12_write_5 rfl 0 rfl ?_
  refine zs_iload_n dX12_write_6 rfl 1 rfl ?_
  refine zs_cV_iR (rest := []) (k_X12_noTray hN _ _) dX12_write_7 lv_X12_365 ok_X12_noTray (zz_rcv_o (shm_0 hN) rfl) (Nat.le_of_ble_eq_true rfl) rfl rfl (Nat.le_of_ble_eq_true rfl) (fun r2 => ?_)
  refine zs_istore [(5, .int r2), (0, .ref (zz_a G 0)), (1, .int p1), (2, .int p2), (3, .long p3)] dX12_write_10 (Nat.le_of_ble_eq_true rfl) rfl ?_
  refine zs_iload dX12_write_12 0 rfl ?_
  refine zs_if_eq (tgt := 21) dX12_write_14 (by decide) ?_ ?_
  · refine zs_iload_n dX12_write_21 rfl 3 rfl ?_
    refine zs_i2l dX12_write_22 ?_
    refine zs_lconst (v := (0 : Int64)) dX12_write_23 rfl ?_
    refine zs_aload_n dX12_write_24 rfl 1 rfl ?_
    refine zs_getR fl_X12_88 dX12_write_25 (shm_0 hN) rfl ?_
    refine zs_iload_n dX12_write_28 rfl 2 rfl ?_
    refine zs_ialdG dX12_write_29 (shm_24 hN) ?_
    refine zs_iconst (v := (1 : Int32)) dX12_write_30 ci_1 ?_
    refine zs_isub dX12_write_31 ?_
    refine zs_i2l dX12_write_32 ?_
    refine zs_cS_iR (rest := []) (k_X12_within hN _ _ _ _) dX12_write_33 ls_X12_163 ok_X12_within (Nat.le_of_ble_eq_true rfl) rfl rfl (Nat.le_of_ble_eq_true rfl) (fun r3 => ?_)
    refine zs_if_ne (tgt := 43) dX12_write_36 (by decide) ?_ ?_
    · refine zs_aload_n dX12_write_43 rfl 1 rfl ?_
      refine zs_getR fl_X12_91 dX12_write_44 (shm_0 hN) rfl ?_
      refine zs_bipush (v := (40 : Int32)) dX12_write_47 cb_40 ?_
      refine zs_iload_n dX12_write_49 rfl 2 rfl ?_
      refine zs_imul dX12_write_50 ?_
      refine zs_iload_n dX12_write_51 rfl 3 rfl ?_
      refine zs_iadd dX12_write_52 ?_
      refine zs_lload_n dX12_write_53 rfl 4 rfl ?_
      refine zs_aload_n dX12_write_54 rfl 1 rfl ?_
      refine zs_getR fl_X12_85 dX12_write_55 (shm_0 hN) rfl ?_
      refine zs_iload_n dX12_write_58 rfl 2 rfl ?_
      refine zs_ialdG dX12_write_59 (shm_23 hN) ?_
      refine zs_cS_jR (rest := [.int (((40 : Int32) * p1) + p2), .ref (zz_a G 25)]) (k_X12_cut hN _ _ _) dX12_write_60 ls_X12_476 ok_X12_cut (Nat.le_of_ble_eq_true rfl) rfl rfl (Nat.le_of_ble_eq_true rfl) (fun r4 => ?_)
      refine zs_lastG dX12_write_63 (shm_25 hN) (fun m5 => ?_)
      refine zs_aload_n dX12_write_64 rfl 1 rfl ?_
      refine zs_getR fl_X12_91 dX12_write_65 (shm_0 hN) rfl ?_
      refine zs_bipush (v := (40 : Int32)) dX12_write_68 cb_40 ?_
      refine zs_iload_n dX12_write_70 rfl 2 rfl ?_
      refine zs_imul dX12_write_71 ?_
      refine zs_iload_n dX12_write_72 rfl 3 rfl ?_
      refine zs_iadd dX12_write_73 ?_
      refine zs_laldG dX12_write_74 (shm_25 hN) ?_
      exact zs_lret dX12_write_75 rfl rfl rfl
    · refine zs_ldc2 (v := (-7 : Int64)) dX12_write_39 kc_X12_474 ?_
      exact zs_lret dX12_write_42 rfl rfl rfl
  · refine zs_iload dX12_write_17 0 rfl ?_
    refine zs_i2l dX12_write_19 ?_
    exact zs_lret dX12_write_20 rfl rfl rfl
/-! X12_lists: PillarDeskModel.lists(I)I -/
theorem dX12_lists_0 : decode cX12_lists 0 = .ok (.aload_n 0, 1) := by decide +kernel
theorem dX12_lists_1 : decode cX12_lists 1 = .ok (.iconst 0, 1) := by decide +kernel
theorem dX12_lists_2 : decode cX12_lists 2 = .ok (.putfield 1, 3) := by decide +kernel
theorem dX12_lists_5 : decode cX12_lists 5 = .ok (.aload_n 0, 1) := by decide +kernel
theorem dX12_lists_6 : decode cX12_lists 6 = .ok (.iload_n 1, 1) := by decide +kernel
theorem dX12_lists_7 : decode cX12_lists 7 = .ok (.invokevirtual 365, 3) := by decide +kernel
theorem dX12_lists_10 : decode cX12_lists 10 = .ok (.istore_n 2, 1) := by decide +kernel
theorem dX12_lists_11 : decode cX12_lists 11 = .ok (.iload_n 2, 1) := by decide +kernel
theorem dX12_lists_12 : decode cX12_lists 12 = .ok (.ifCond .eq 5, 3) := by decide +kernel
theorem dX12_lists_15 : decode cX12_lists 15 = .ok (.iload_n 2, 1) := by decide +kernel
theorem dX12_lists_16 : decode cX12_lists 16 = .ok (.ireturn, 1) := by decide +kernel
theorem dX12_lists_17 : decode cX12_lists 17 = .ok (.aload_n 0, 1) := by decide +kernel
theorem dX12_lists_18 : decode cX12_lists 18 = .ok (.invokevirtual 312, 3) := by decide +kernel
theorem dX12_lists_21 : decode cX12_lists 21 = .ok (.aload_n 0, 1) := by decide +kernel
theorem dX12_lists_22 : decode cX12_lists 22 = .ok (.getfield 272, 3) := by decide +kernel
theorem dX12_lists_25 : decode cX12_lists 25 = .ok (.aload_n 0, 1) := by decide +kernel
theorem dX12_lists_26 : decode cX12_lists 26 = .ok (.getfield 88, 3) := by decide +kernel
theorem dX12_lists_29 : decode cX12_lists 29 = .ok (.iload_n 1, 1) := by decide +kernel
theorem dX12_lists_30 : decode cX12_lists 30 = .ok (.iaload, 1) := by decide +kernel
theorem dX12_lists_31 : decode cX12_lists 31 = .ok (.if_icmp .ge 10, 3) := by decide +kernel
theorem dX12_lists_34 : decode cX12_lists 34 = .ok (.aload_n 0, 1) := by decide +kernel
theorem dX12_lists_35 : decode cX12_lists 35 = .ok (.getfield 272, 3) := by decide +kernel
theorem dX12_lists_38 : decode cX12_lists 38 = .ok (.goto 9, 3) := by decide +kernel
theorem dX12_lists_41 : decode cX12_lists 41 = .ok (.aload_n 0, 1) := by decide +kernel
theorem dX12_lists_42 : decode cX12_lists 42 = .ok (.getfield 88, 3) := by decide +kernel
theorem dX12_lists_45 : decode cX12_lists 45 = .ok (.iload_n 1, 1) := by decide +kernel
theorem dX12_lists_46 : decode cX12_lists 46 = .ok (.iaload, 1) := by decide +kernel
theorem dX12_lists_47 : decode cX12_lists 47 = .ok (.istore_n 3, 1) := by decide +kernel
theorem dX12_lists_48 : decode cX12_lists 48 = .ok (.iconst 0, 1) := by decide +kernel
theorem dX12_lists_49 : decode cX12_lists 49 = .ok (.istore 4, 2) := by decide +kernel
theorem dX12_lists_51 : decode cX12_lists 51 = .ok (.iload 4, 2) := by decide +kernel
theorem dX12_lists_53 : decode cX12_lists 53 = .ok (.iload_n 3, 1) := by decide +kernel
theorem dX12_lists_54 : decode cX12_lists 54 = .ok (.if_icmp .ge 38, 3) := by decide +kernel
theorem dX12_lists_57 : decode cX12_lists 57 = .ok (.aload_n 0, 1) := by decide +kernel
theorem dX12_lists_58 : decode cX12_lists 58 = .ok (.getfield 91, 3) := by decide +kernel
theorem dX12_lists_61 : decode cX12_lists 61 = .ok (.bipush 40, 2) := by decide +kernel
theorem dX12_lists_63 : decode cX12_lists 63 = .ok (.iload_n 1, 1) := by decide +kernel
theorem dX12_lists_64 : decode cX12_lists 64 = .ok (.imul, 1) := by decide +kernel
theorem dX12_lists_65 : decode cX12_lists 65 = .ok (.iload 4, 2) := by decide +kernel
theorem dX12_lists_67 : decode cX12_lists 67 = .ok (.iadd, 1) := by decide +kernel
theorem dX12_lists_68 : decode cX12_lists 68 = .ok (.aload_n 0, 1) := by decide +kernel
theorem dX12_lists_69 : decode cX12_lists 69 = .ok (.getfield 57, 3) := by decide +kernel
theorem dX12_lists_72 : decode cX12_lists 72 = .ok (.iload 4, 2) := by decide +kernel
theorem dX12_lists_74 : decode cX12_lists 74 = .ok (.iaload, 1) := by decide +kernel
theorem dX12_lists_75 : decode cX12_lists 75 = .ok (.i2l, 1) := by decide +kernel
theorem dX12_lists_76 : decode cX12_lists 76 = .ok (.aload_n 0, 1) := by decide +kernel
theorem dX12_lists_77 : decode cX12_lists 77 = .ok (.getfield 85, 3) := by decide +kernel
theorem dX12_lists_80 : decode cX12_lists 80 = .ok (.iload_n 1, 1) := by decide +kernel
theorem dX12_lists_81 : decode cX12_lists 81 = .ok (.iaload, 1) := by decide +kernel
theorem dX12_lists_82 : decode cX12_lists 82 = .ok (.invokestatic 476, 3) := by decide +kernel
theorem dX12_lists_85 : decode cX12_lists 85 = .ok (.lastore, 1) := by decide +kernel
theorem dX12_lists_86 : decode cX12_lists 86 = .ok (.iinc 4 1, 3) := by decide +kernel
theorem dX12_lists_89 : decode cX12_lists 89 = .ok (.goto (-38), 3) := by decide +kernel
theorem dX12_lists_92 : decode cX12_lists 92 = .ok (.iload_n 3, 1) := by decide +kernel
theorem dX12_lists_93 : decode cX12_lists 93 = .ok (.ireturn, 1) := by decide +kernel
def f_X12_lists_51   : Nat → Int32 → Int32 → Int32 → zz_Mem → Option (Int32 × zz_Mem)
  | 0, _, _, _, _ => none
  | n + 1, v1, v3, v4, m =>
  if v3 ≤ v4 then (
  some (v3, m))
  else (
  zz_ix v4 9 <|
  zz_ix v1 4 <|
  zz_bndR (f_X12_cut ((m.1 14 v4.toNatClampNeg).toInt64) (m.1 23 v1.toNatClampNeg)) fun r1 =>
  zz_ix (((40 : Int32) * v1) + v4) 160 <| zz_letM (zz_setJ m 25 (((40 : Int32) * v1) + v4).toNatClampNeg r1) fun m2 =>
  zz_letI (v4 + (1 : Int32)) fun x3 =>
  f_X12_lists_51 n v1 v3 x3 m2)
theorem t_X12_lists_51 {l : Launch} {G : zz_G} (hN : 26 ≤ zz_N G)  : ∀ (n : Nat) (v1 : Int32) (v3 : Int32) (v4 : Int32) (m : zz_Mem), zz_Sim zz_shM l G mX12_lists 6 zz_vI zz_m2 (f_X12_lists_51 n v1 v3 v4 m) 51 [(0, .ref (zz_a G 0)), (1, .int v1), (3, .int v3), (4, .int v4)] [] m := by
  intro n
  induction n with
  | zero => intro _ _ _ _; exact zs_none
  | succ n ih =>
    intro v1 v3 v4 m
    rw [f_X12_lists_51]
    refine zs_iload dX12_lists_51 3 rfl ?_
    refine zs_iload_n dX12_lists_53 rfl 2 rfl ?_
    refine zs_icmp_ge (tgt := 92) dX12_lists_54 (by decide) ?_ ?_
    · refine zs_iload_n dX12_lists_92 rfl 2 rfl ?_
      exact zs_iret dX12_lists_93 rfl rfl rfl
    · refine zs_aload_n dX12_lists_57 rfl 0 rfl ?_
      refine zs_getR fl_X12_91 dX12_lists_58 (shm_0 hN) rfl ?_
      refine zs_bipush (v := (40 : Int32)) dX12_lists_61 cb_40 ?_
      refine zs_iload_n dX12_lists_63 rfl 1 rfl ?_
      refine zs_imul dX12_lists_64 ?_
      refine zs_iload dX12_lists_65 3 rfl ?_
      refine zs_iadd dX12_lists_67 ?_
      refine zs_aload_n dX12_lists_68 rfl 0 rfl ?_
      refine zs_getR fl_X12_57 dX12_lists_69 (shm_0 hN) rfl ?_
      refine zs_iload dX12_lists_72 3 rfl ?_
      refine zs_ialdG dX12_lists_74 (shm_14 hN) ?_
      refine zs_i2l dX12_lists_75 ?_
      refine zs_aload_n dX12_lists_76 rfl 0 rfl ?_
      refine zs_getR fl_X12_85 dX12_lists_77 (shm_0 hN) rfl ?_
      refine zs_iload_n dX12_lists_80 rfl 1 rfl ?_
      refine zs_ialdG dX12_lists_81 (shm_23 hN) ?_
      refine zs_cS_jR (rest := [.int (((40 : Int32) * v1) + v4), .ref (zz_a G 25)]) (k_X12_cut hN _ _ _) dX12_lists_82 ls_X12_476 ok_X12_cut (Nat.le_of_ble_eq_true rfl) rfl rfl (Nat.le_of_ble_eq_true rfl) (fun r1 => ?_)
      refine zs_lastG dX12_lists_85 (shm_25 hN) (fun m2 => ?_)
      refine zs_iinc (fun y => [(4, .int y), (0, .ref (zz_a G 0)), (1, .int v1), (3, .int v3)]) dX12_lists_86 3 rfl ci_1 (Nat.le_of_ble_eq_true rfl) (fun _ => rfl) (fun x3 => ?_)
      refine zs_goto (tgt := 51) dX12_lists_89 (by decide) ?_
      refine zs_sub [1, 2, 3, 0] rfl ?_
      exact ih _ _ _ _
def f_X12_lists  (p1 : Int32) (m : zz_Mem) : Option (Int32 × zz_Mem) :=
  zz_letM (zz_setI m 0 0 (0 : Int32)) fun m1 =>
  zz_bndR (f_X12_noTray m1 p1) fun r2 =>
  if r2 = 0 then (
  zz_bndR (f_X12_laysCurve m1) fun m3 =>
  zz_ix p1 4 <|
  if (m3.1 24 p1.toNatClampNeg) ≤ (m3.1 0 28) then (
  zz_ix p1 4 <|
  zz_letI (m3.1 24 p1.toNatClampNeg) fun x4 =>
  f_X12_lists_51 zz_fuel p1 x4 (0 : Int32) m3)
  else (
  zz_letI (m3.1 0 28) fun x5 =>
  f_X12_lists_51 zz_fuel p1 x5 (0 : Int32) m3))
  else (
  some (r2, m1))
theorem k_X12_lists {l : Launch} {G : zz_G} (hN : 26 ≤ zz_N G) : ∀ (p1 : Int32) (m : zz_Mem), zz_Con zz_shM l G mX12_lists 6 [.ref (zz_a G 0), .int p1] zz_vI zz_m2 (f_X12_lists p1 m) m := by
  intro p1 m
  refine zz_con (lv := [(0, .ref (zz_a G 0)), (1, .int p1)]) (by decide +kernel) (Nat.le_of_ble_eq_true rfl) rfl ?_
  unfold f_X12_lists
  refine zs_aload_n dX12_lists_0 rfl 0 rfl ?_
  refine zs_iconst (v := (0 : Int32)) dX12_lists_1 ci_0 ?_
  refine zs_putI fl_X12_1 dX12_lists_2 (shm_0 hN) rfl ⟨rfl, rfl⟩ (fun m1 => ?_)
  refine zs_aload_n dX12_lists_5 rfl 0 rfl ?_
  refine zs_iload_n dX12_lists_6 rfl 1 rfl ?_
  refine zs_cV_iR (rest := []) (k_X12_noTray hN _ _) dX12_lists_7 lv_X12_365 ok_X12_noTray (zz_rcv_o (shm_0 hN) rfl) (Nat.le_of_ble_eq_true rfl) rfl rfl (Nat.le_of_ble_eq_true rfl) (fun r2 => ?_)
  refine zs_istore_n [(2, .int r2), (0, .ref (zz_a G 0)), (1, .int p1)] dX12_lists_10 rfl (Nat.le_of_ble_eq_true rfl) rfl ?_
  refine zs_iload_n dX12_lists_11 rfl 0 rfl ?_
  refine zs_if_eq (tgt := 17) dX12_lists_12 (by decide) ?_ ?_
  · refine zs_aload_n dX12_lists_17 rfl 1 rfl ?_
    refine zs_cV_vW (rest := []) (k_X12_laysCurve hN  _) dX12_lists_18 lv_X12_312 ok_X12_laysCurve (zz_rcv_o (shm_0 hN) rfl) (Nat.le_of_ble_eq_true rfl) rfl rfl (Nat.le_of_ble_eq_true rfl) (fun m3 => ?_)
    refine zs_aload_n dX12_lists_21 rfl 1 rfl ?_
    refine zs_getI fl_X12_272 dX12_lists_22 (shm_0 hN) rfl ?_
    refine zs_aload_n dX12_lists_25 rfl 1 rfl ?_
    refine zs_getR fl_X12_88 dX12_lists_26 (shm_0 hN) rfl ?_
    refine zs_iload_n dX12_lists_29 rfl 2 rfl ?_
    refine zs_ialdG dX12_lists_30 (shm_24 hN) ?_
    refine zs_icmp_ge (tgt := 41) dX12_lists_31 (by decide) ?_ ?_
    · refine zs_aload_n dX12_lists_41 rfl 1 rfl ?_
      refine zs_getR fl_X12_88 dX12_lists_42 (shm_0 hN) rfl ?_
      refine zs_iload_n dX12_lists_45 rfl 2 rfl ?_
      refine zs_ialdG dX12_lists_46 (shm_24 hN) ?_
      refine zs_letI (fun x4 => ?_)
      refine zs_istore_n [(3, .int x4), (2, .int r2), (0, .ref (zz_a G 0)), (1, .int p1)] dX12_lists_47 rfl (Nat.le_of_ble_eq_true rfl) rfl ?_
      refine zs_iconst (v := (0 : Int32)) dX12_lists_48 ci_0 ?_
      refine zs_istore [(4, .int (0 : Int32)), (3, .int x4), (2, .int r2), (0, .ref (zz_a G 0)), (1, .int p1)] dX12_lists_49 (Nat.le_of_ble_eq_true rfl) rfl ?_
      refine zs_sub [3, 4, 1, 0] rfl ?_
      exact t_X12_lists_51 hN zz_fuel _ _ _ _
    · refine zs_aload_n dX12_lists_34 rfl 1 rfl ?_
      refine zs_getI fl_X12_272 dX12_lists_35 (shm_0 hN) rfl ?_
      refine zs_goto (tgt := 47) dX12_lists_38 (by decide) ?_
      refine zs_letI (fun x5 => ?_)
      refine zs_istore_n [(3, .int x5), (2, .int r2), (0, .ref (zz_a G 0)), (1, .int p1)] dX12_lists_47 rfl (Nat.le_of_ble_eq_true rfl) rfl ?_
      refine zs_iconst (v := (0 : Int32)) dX12_lists_48 ci_0 ?_
      refine zs_istore [(4, .int (0 : Int32)), (3, .int x5), (2, .int r2), (0, .ref (zz_a G 0)), (1, .int p1)] dX12_lists_49 (Nat.le_of_ble_eq_true rfl) rfl ?_
      refine zs_sub [3, 4, 1, 0] rfl ?_
      exact t_X12_lists_51 hN zz_fuel _ _ _ _
  · refine zs_iload_n dX12_lists_15 rfl 0 rfl ?_
    exact zs_iret dX12_lists_16 rfl rfl rfl
/-! X12_image: PillarDeskModel.image(I)I -/
theorem dX12_image_0 : decode cX12_image 0 = .ok (.aload_n 0, 1) := by decide +kernel
theorem dX12_image_1 : decode cX12_image 1 = .ok (.iconst 0, 1) := by decide +kernel
theorem dX12_image_2 : decode cX12_image 2 = .ok (.putfield 1, 3) := by decide +kernel
theorem dX12_image_5 : decode cX12_image 5 = .ok (.iload_n 1, 1) := by decide +kernel
theorem dX12_image_6 : decode cX12_image 6 = .ok (.i2l, 1) := by decide +kernel
theorem dX12_image_7 : decode cX12_image 7 = .ok (.lconst 0, 1) := by decide +kernel
theorem dX12_image_8 : decode cX12_image 8 = .ok (.lconst 1, 1) := by decide +kernel
theorem dX12_image_9 : decode cX12_image 9 = .ok (.invokestatic 163, 3) := by decide +kernel
theorem dX12_image_12 : decode cX12_image 12 = .ok (.ifCond .ne 6, 3) := by decide +kernel
theorem dX12_image_15 : decode cX12_image 15 = .ok (.bipush (-2), 2) := by decide +kernel
theorem dX12_image_17 : decode cX12_image 17 = .ok (.ireturn, 1) := by decide +kernel
theorem dX12_image_18 : decode cX12_image 18 = .ok (.iconst 0, 1) := by decide +kernel
theorem dX12_image_19 : decode cX12_image 19 = .ok (.istore_n 2, 1) := by decide +kernel
theorem dX12_image_20 : decode cX12_image 20 = .ok (.iload_n 2, 1) := by decide +kernel
theorem dX12_image_21 : decode cX12_image 21 = .ok (.sipush 1177, 3) := by decide +kernel
theorem dX12_image_24 : decode cX12_image 24 = .ok (.if_icmp .ge 29, 3) := by decide +kernel
theorem dX12_image_27 : decode cX12_image 27 = .ok (.aload_n 0, 1) := by decide +kernel
theorem dX12_image_28 : decode cX12_image 28 = .ok (.getfield 13, 3) := by decide +kernel
theorem dX12_image_31 : decode cX12_image 31 = .ok (.sipush 1177, 3) := by decide +kernel
theorem dX12_image_34 : decode cX12_image 34 = .ok (.iload_n 1, 1) := by decide +kernel
theorem dX12_image_35 : decode cX12_image 35 = .ok (.iconst 1, 1) := by decide +kernel
theorem dX12_image_36 : decode cX12_image 36 = .ok (.iadd, 1) := by decide +kernel
theorem dX12_image_37 : decode cX12_image 37 = .ok (.imul, 1) := by decide +kernel
theorem dX12_image_38 : decode cX12_image 38 = .ok (.iload_n 2, 1) := by decide +kernel
theorem dX12_image_39 : decode cX12_image 39 = .ok (.iadd, 1) := by decide +kernel
theorem dX12_image_40 : decode cX12_image 40 = .ok (.aload_n 0, 1) := by decide +kernel
theorem dX12_image_41 : decode cX12_image 41 = .ok (.getfield 13, 3) := by decide +kernel
theorem dX12_image_44 : decode cX12_image 44 = .ok (.iload_n 2, 1) := by decide +kernel
theorem dX12_image_45 : decode cX12_image 45 = .ok (.iaload, 1) := by decide +kernel
theorem dX12_image_46 : decode cX12_image 46 = .ok (.iastore, 1) := by decide +kernel
theorem dX12_image_47 : decode cX12_image 47 = .ok (.iinc 2 1, 3) := by decide +kernel
theorem dX12_image_50 : decode cX12_image 50 = .ok (.goto (-30), 3) := by decide +kernel
theorem dX12_image_53 : decode cX12_image 53 = .ok (.aload_n 0, 1) := by decide +kernel
theorem dX12_image_54 : decode cX12_image 54 = .ok (.getfield 17, 3) := by decide +kernel
theorem dX12_image_57 : decode cX12_image 57 = .ok (.iload_n 1, 1) := by decide +kernel
theorem dX12_image_58 : decode cX12_image 58 = .ok (.iconst 1, 1) := by decide +kernel
theorem dX12_image_59 : decode cX12_image 59 = .ok (.bastore, 1) := by decide +kernel
theorem dX12_image_60 : decode cX12_image 60 = .ok (.iconst 0, 1) := by decide +kernel
theorem dX12_image_61 : decode cX12_image 61 = .ok (.ireturn, 1) := by decide +kernel
def f_X12_image_53   (v1 : Int32) (m : zz_Mem) : Option (Int32 × zz_Mem) :=
  zz_ix v1 2 <| zz_letM (zz_setI m 2 v1.toNatClampNeg (vp_nar .boolean (1 : Int32))) fun m1 =>
  some ((0 : Int32), m1)
theorem t_X12_image_53 {l : Launch} {G : zz_G} (hN : 26 ≤ zz_N G)  : ∀ (v1 : Int32) (m : zz_Mem), zz_Sim zz_shM l G mX12_image 1 zz_vI zz_m2 (f_X12_image_53 v1 m) 53 [(0, .ref (zz_a G 0)), (1, .int v1)] [] m := by
  intro v1 m
  unfold f_X12_image_53
  refine zs_aload_n dX12_image_53 rfl 0 rfl ?_
  refine zs_getR fl_X12_17 dX12_image_54 (shm_0 hN) rfl ?_
  refine zs_iload_n dX12_image_57 rfl 1 rfl ?_
  refine zs_iconst (v := (1 : Int32)) dX12_image_58 ci_1 ?_
  refine zs_zastG dX12_image_59 (shm_2 hN) (fun m1 => ?_)
  refine zs_iconst (v := (0 : Int32)) dX12_image_60 ci_0 ?_
  exact zs_iret dX12_image_61 rfl rfl rfl
def f_X12_image_20   : Nat → Int32 → Int32 → zz_Mem → Option (Int32 × zz_Mem)
  | 0, _, _, _ => none
  | n + 1, v1, v2, m =>
  if (1177 : Int32) ≤ v2 then (
  f_X12_image_53 v1 m)
  else (
  zz_ix v2 3531 <|
  zz_ix (((1177 : Int32) * (v1 + (1 : Int32))) + v2) 3531 <| zz_letM (zz_setI m 1 (((1177 : Int32) * (v1 + (1 : Int32))) + v2).toNatClampNeg (m.1 1 v2.toNatClampNeg)) fun m1 =>
  zz_letI (v2 + (1 : Int32)) fun x2 =>
  f_X12_image_20 n v1 x2 m1)
theorem t_X12_image_20 {l : Launch} {G : zz_G} (hN : 26 ≤ zz_N G)  : ∀ (n : Nat) (v1 : Int32) (v2 : Int32) (m : zz_Mem), zz_Sim zz_shM l G mX12_image 1 zz_vI zz_m2 (f_X12_image_20 n v1 v2 m) 20 [(0, .ref (zz_a G 0)), (1, .int v1), (2, .int v2)] [] m := by
  intro n
  induction n with
  | zero => intro _ _ _; exact zs_none
  | succ n ih =>
    intro v1 v2 m
    rw [f_X12_image_20]
    refine zs_iload_n dX12_image_20 rfl 2 rfl ?_
    refine zs_sipush (v := (1177 : Int32)) dX12_image_21 cs_1177 ?_
    refine zs_icmp_ge (tgt := 53) dX12_image_24 (by decide) ?_ ?_
    · refine zs_sub [0, 1] rfl ?_
      exact t_X12_image_53 hN _ _
    · refine zs_aload_n dX12_image_27 rfl 0 rfl ?_
      refine zs_getR fl_X12_13 dX12_image_28 (shm_0 hN) rfl ?_
      refine zs_sipush (v := (1177 : Int32)) dX12_image_31 cs_1177 ?_
      refine zs_iload_n dX12_image_34 rfl 1 rfl ?_
      refine zs_iconst (v := (1 : Int32)) dX12_image_35 ci_1 ?_
      refine zs_iadd dX12_image_36 ?_
      refine zs_imul dX12_image_37 ?_
      refine zs_iload_n dX12_image_38 rfl 2 rfl ?_
      refine zs_iadd dX12_image_39 ?_
      refine zs_aload_n dX12_image_40 rfl 0 rfl ?_
      refine zs_getR fl_X12_13 dX12_image_41 (shm_0 hN) rfl ?_
      refine zs_iload_n dX12_image_44 rfl 2 rfl ?_
      refine zs_ialdG dX12_image_45 (shm_1 hN) ?_
      refine zs_iastG dX12_image_46 (shm_1 hN) (fun m1 => ?_)
      refine zs_iinc (fun y => [(2, .int y), (0, .ref (zz_a G 0)), (1, .int v1)]) dX12_image_47 2 rfl ci_1 (Nat.le_of_ble_eq_true rfl) (fun _ => rfl) (fun x2 => ?_)
      refine zs_goto (tgt := 20) dX12_image_50 (by decide) ?_
      refine zs_sub [1, 2, 0] rfl ?_
      exact ih _ _ _
def f_X12_image  (p1 : Int32) (m : zz_Mem) : Option (Int32 × zz_Mem) :=
  zz_letM (zz_setI m 0 0 (0 : Int32)) fun m1 =>
  zz_bndR (f_X12_within p1.toInt64 (0 : Int64) (1 : Int64)) fun r2 =>
  if r2 = 0 then (
  some ((-2 : Int32), m1))
  else (
  f_X12_image_20 zz_fuel p1 (0 : Int32) m1)
theorem k_X12_image {l : Launch} {G : zz_G} (hN : 26 ≤ zz_N G) : ∀ (p1 : Int32) (m : zz_Mem), zz_Con zz_shM l G mX12_image 1 [.ref (zz_a G 0), .int p1] zz_vI zz_m2 (f_X12_image p1 m) m := by
  intro p1 m
  refine zz_con (lv := [(0, .ref (zz_a G 0)), (1, .int p1)]) (by decide +kernel) (Nat.le_of_ble_eq_true rfl) rfl ?_
  unfold f_X12_image
  refine zs_aload_n dX12_image_0 rfl 0 rfl ?_
  refine zs_iconst (v := (0 : Int32)) dX12_image_1 ci_0 ?_
  refine zs_putI fl_X12_1 dX12_image_2 (shm_0 hN) rfl ⟨rfl, rfl⟩ (fun m1 => ?_)
  refine zs_iload_n dX12_image_5 rfl 1 rfl ?_
  refine zs_i2l dX12_image_6 ?_
  refine zs_lconst (v := (0 : Int64)) dX12_image_7 rfl ?_
  refine zs_lconst (v := (1 : Int64)) dX12_image_8 rfl ?_
  refine zs_cS_iR (rest := []) (k_X12_within hN _ _ _ _) dX12_image_9 ls_X12_163 ok_X12_within (Nat.le_of_ble_eq_true rfl) rfl rfl (Nat.le_of_ble_eq_true rfl) (fun r2 => ?_)
  refine zs_if_ne (tgt := 18) dX12_image_12 (by decide) ?_ ?_
  · refine zs_iconst (v := (0 : Int32)) dX12_image_18 ci_0 ?_
    refine zs_istore_n [(2, .int (0 : Int32)), (0, .ref (zz_a G 0)), (1, .int p1)] dX12_image_19 rfl (Nat.le_of_ble_eq_true rfl) rfl ?_
    refine zs_sub [1, 2, 0] rfl ?_
    exact t_X12_image_20 hN zz_fuel _ _ _
  · refine zs_bipush (v := (-2 : Int32)) dX12_image_15 cb_m2 ?_
    exact zs_iret dX12_image_17 rfl rfl rfl
/-! X12_restore: PillarDeskModel.restore(I)I -/
theorem dX12_restore_0 : decode cX12_restore 0 = .ok (.aload_n 0, 1) := by decide +kernel
theorem dX12_restore_1 : decode cX12_restore 1 = .ok (.iconst 0, 1) := by decide +kernel
theorem dX12_restore_2 : decode cX12_restore 2 = .ok (.putfield 1, 3) := by decide +kernel
theorem dX12_restore_5 : decode cX12_restore 5 = .ok (.iload_n 1, 1) := by decide +kernel
theorem dX12_restore_6 : decode cX12_restore 6 = .ok (.i2l, 1) := by decide +kernel
theorem dX12_restore_7 : decode cX12_restore 7 = .ok (.lconst 0, 1) := by decide +kernel
theorem dX12_restore_8 : decode cX12_restore 8 = .ok (.lconst 1, 1) := by decide +kernel
theorem dX12_restore_9 : decode cX12_restore 9 = .ok (.invokestatic 163, 3) := by decide +kernel
theorem dX12_restore_12 : decode cX12_restore 12 = .ok (.ifCond .ne 6, 3) := by decide +kernel
theorem dX12_restore_15 : decode cX12_restore 15 = .ok (.bipush (-2), 2) := by decide +kernel
theorem dX12_restore_17 : decode cX12_restore 17 = .ok (.ireturn, 1) := by decide +kernel
theorem dX12_restore_18 : decode cX12_restore 18 = .ok (.aload_n 0, 1) := by decide +kernel
theorem dX12_restore_19 : decode cX12_restore 19 = .ok (.getfield 17, 3) := by decide +kernel
theorem dX12_restore_22 : decode cX12_restore 22 = .ok (.iload_n 1, 1) := by decide +kernel
theorem dX12_restore_23 : decode cX12_restore 23 = .ok (.baload, 1) := by decide +kernel
theorem dX12_restore_24 : decode cX12_restore 24 = .ok (.ifCond .ne 6, 3) := by decide +kernel
theorem dX12_restore_27 : decode cX12_restore 27 = .ok (.bipush (-5), 2) := by decide +kernel
theorem dX12_restore_29 : decode cX12_restore 29 = .ok (.ireturn, 1) := by decide +kernel
theorem dX12_restore_30 : decode cX12_restore 30 = .ok (.iconst 0, 1) := by decide +kernel
theorem dX12_restore_31 : decode cX12_restore 31 = .ok (.istore_n 2, 1) := by decide +kernel
theorem dX12_restore_32 : decode cX12_restore 32 = .ok (.iload_n 2, 1) := by decide +kernel
theorem dX12_restore_33 : decode cX12_restore 33 = .ok (.sipush 1177, 3) := by decide +kernel
theorem dX12_restore_36 : decode cX12_restore 36 = .ok (.if_icmp .ge 29, 3) := by decide +kernel
theorem dX12_restore_39 : decode cX12_restore 39 = .ok (.aload_n 0, 1) := by decide +kernel
theorem dX12_restore_40 : decode cX12_restore 40 = .ok (.getfield 13, 3) := by decide +kernel
theorem dX12_restore_43 : decode cX12_restore 43 = .ok (.iload_n 2, 1) := by decide +kernel
theorem dX12_restore_44 : decode cX12_restore 44 = .ok (.aload_n 0, 1) := by decide +kernel
theorem dX12_restore_45 : decode cX12_restore 45 = .ok (.getfield 13, 3) := by decide +kernel
theorem dX12_restore_48 : decode cX12_restore 48 = .ok (.sipush 1177, 3) := by decide +kernel
theorem dX12_restore_51 : decode cX12_restore 51 = .ok (.iload_n 1, 1) := by decide +kernel
theorem dX12_restore_52 : decode cX12_restore 52 = .ok (.iconst 1, 1) := by decide +kernel
theorem dX12_restore_53 : decode cX12_restore 53 = .ok (.iadd, 1) := by decide +kernel
theorem dX12_restore_54 : decode cX12_restore 54 = .ok (.imul, 1) := by decide +kernel
theorem dX12_restore_55 : decode cX12_restore 55 = .ok (.iload_n 2, 1) := by decide +kernel
theorem dX12_restore_56 : decode cX12_restore 56 = .ok (.iadd, 1) := by decide +kernel
theorem dX12_restore_57 : decode cX12_restore 57 = .ok (.iaload, 1) := by decide +kernel
theorem dX12_restore_58 : decode cX12_restore 58 = .ok (.iastore, 1) := by decide +kernel
theorem dX12_restore_59 : decode cX12_restore 59 = .ok (.iinc 2 1, 3) := by decide +kernel
theorem dX12_restore_62 : decode cX12_restore 62 = .ok (.goto (-30), 3) := by decide +kernel
theorem dX12_restore_65 : decode cX12_restore 65 = .ok (.aload_n 0, 1) := by decide +kernel
theorem dX12_restore_66 : decode cX12_restore 66 = .ok (.getfield 13, 3) := by decide +kernel
theorem dX12_restore_69 : decode cX12_restore 69 = .ok (.bipush 85, 2) := by decide +kernel
theorem dX12_restore_71 : decode cX12_restore 71 = .ok (.iconst 0, 1) := by decide +kernel
theorem dX12_restore_72 : decode cX12_restore 72 = .ok (.iastore, 1) := by decide +kernel
theorem dX12_restore_73 : decode cX12_restore 73 = .ok (.aload_n 0, 1) := by decide +kernel
theorem dX12_restore_74 : decode cX12_restore 74 = .ok (.invokevirtual 98, 3) := by decide +kernel
theorem dX12_restore_77 : decode cX12_restore 77 = .ok (.iconst 0, 1) := by decide +kernel
theorem dX12_restore_78 : decode cX12_restore 78 = .ok (.ireturn, 1) := by decide +kernel
def f_X12_restore_65   (m : zz_Mem) : Option (Int32 × zz_Mem) :=
  zz_letM (zz_setI m 1 85 (0 : Int32)) fun m1 =>
  zz_bndR (f_X12_laysDays m1) fun m2 =>
  some ((0 : Int32), m2)
theorem t_X12_restore_65 {l : Launch} {G : zz_G} (hN : 26 ≤ zz_N G)  : ∀ (m : zz_Mem), zz_Sim zz_shM l G mX12_restore 6 zz_vI zz_m2 (f_X12_restore_65 m) 65 [(0, .ref (zz_a G 0))] [] m := by
  intro m
  unfold f_X12_restore_65
  refine zs_aload_n dX12_restore_65 rfl 0 rfl ?_
  refine zs_getR fl_X12_13 dX12_restore_66 (shm_0 hN) rfl ?_
  refine zs_bipush (v := (85 : Int32)) dX12_restore_69 cb_85 ?_
  refine zs_iconst (v := (0 : Int32)) dX12_restore_71 ci_0 ?_
  refine zs_iastC dX12_restore_72 (shm_1 hN) vin_85_3531 clp_85 (fun m1 => ?_)
  refine zs_aload_n dX12_restore_73 rfl 0 rfl ?_
  refine zs_cV_vW (rest := []) (k_X12_laysDays hN  _) dX12_restore_74 lv_X12_98 ok_X12_laysDays (zz_rcv_o (shm_0 hN) rfl) (Nat.le_of_ble_eq_true rfl) rfl rfl (Nat.le_of_ble_eq_true rfl) (fun m2 => ?_)
  refine zs_iconst (v := (0 : Int32)) dX12_restore_77 ci_0 ?_
  exact zs_iret dX12_restore_78 rfl rfl rfl
def f_X12_restore_32   : Nat → Int32 → Int32 → zz_Mem → Option (Int32 × zz_Mem)
  | 0, _, _, _ => none
  | n + 1, v1, v2, m =>
  if (1177 : Int32) ≤ v2 then (
  f_X12_restore_65 m)
  else (
  zz_ix (((1177 : Int32) * (v1 + (1 : Int32))) + v2) 3531 <|
  zz_ix v2 3531 <| zz_letM (zz_setI m 1 v2.toNatClampNeg (m.1 1 (((1177 : Int32) * (v1 + (1 : Int32))) + v2).toNatClampNeg)) fun m1 =>
  zz_letI (v2 + (1 : Int32)) fun x2 =>
  f_X12_restore_32 n v1 x2 m1)
theorem t_X12_restore_32 {l : Launch} {G : zz_G} (hN : 26 ≤ zz_N G)  : ∀ (n : Nat) (v1 : Int32) (v2 : Int32) (m : zz_Mem), zz_Sim zz_shM l G mX12_restore 6 zz_vI zz_m2 (f_X12_restore_32 n v1 v2 m) 32 [(0, .ref (zz_a G 0)), (1, .int v1), (2, .int v2)] [] m := by
  intro n
  induction n with
  | zero => intro _ _ _; exact zs_none
  | succ n ih =>
    intro v1 v2 m
    rw [f_X12_restore_32]
    refine zs_iload_n dX12_restore_32 rfl 2 rfl ?_
    refine zs_sipush (v := (1177 : Int32)) dX12_restore_33 cs_1177 ?_
    refine zs_icmp_ge (tgt := 65) dX12_restore_36 (by decide) ?_ ?_
    · refine zs_sub [0] rfl ?_
      exact t_X12_restore_65 hN _
    · refine zs_aload_n dX12_restore_39 rfl 0 rfl ?_
      refine zs_getR fl_X12_13 dX12_restore_40 (shm_0 hN) rfl ?_
      refine zs_iload_n dX12_restore_43 rfl 2 rfl ?_
      refine zs_aload_n dX12_restore_44 rfl 0 rfl ?_
      refine zs_getR fl_X12_13 dX12_restore_45 (shm_0 hN) rfl ?_
      refine zs_sipush (v := (1177 : Int32)) dX12_restore_48 cs_1177 ?_
      refine zs_iload_n dX12_restore_51 rfl 1 rfl ?_
      refine zs_iconst (v := (1 : Int32)) dX12_restore_52 ci_1 ?_
      refine zs_iadd dX12_restore_53 ?_
      refine zs_imul dX12_restore_54 ?_
      refine zs_iload_n dX12_restore_55 rfl 2 rfl ?_
      refine zs_iadd dX12_restore_56 ?_
      refine zs_ialdG dX12_restore_57 (shm_1 hN) ?_
      refine zs_iastG dX12_restore_58 (shm_1 hN) (fun m1 => ?_)
      refine zs_iinc (fun y => [(2, .int y), (0, .ref (zz_a G 0)), (1, .int v1)]) dX12_restore_59 2 rfl ci_1 (Nat.le_of_ble_eq_true rfl) (fun _ => rfl) (fun x2 => ?_)
      refine zs_goto (tgt := 32) dX12_restore_62 (by decide) ?_
      refine zs_sub [1, 2, 0] rfl ?_
      exact ih _ _ _
def f_X12_restore  (p1 : Int32) (m : zz_Mem) : Option (Int32 × zz_Mem) :=
  zz_letM (zz_setI m 0 0 (0 : Int32)) fun m1 =>
  zz_bndR (f_X12_within p1.toInt64 (0 : Int64) (1 : Int64)) fun r2 =>
  if r2 = 0 then (
  some ((-2 : Int32), m1))
  else (
  zz_ix p1 2 <|
  if (m1.1 2 p1.toNatClampNeg) = 0 then (
  some ((-5 : Int32), m1))
  else (
  f_X12_restore_32 zz_fuel p1 (0 : Int32) m1))
theorem k_X12_restore {l : Launch} {G : zz_G} (hN : 26 ≤ zz_N G) : ∀ (p1 : Int32) (m : zz_Mem), zz_Con zz_shM l G mX12_restore 6 [.ref (zz_a G 0), .int p1] zz_vI zz_m2 (f_X12_restore p1 m) m := by
  intro p1 m
  refine zz_con (lv := [(0, .ref (zz_a G 0)), (1, .int p1)]) (by decide +kernel) (Nat.le_of_ble_eq_true rfl) rfl ?_
  unfold f_X12_restore
  refine zs_aload_n dX12_restore_0 rfl 0 rfl ?_
  refine zs_iconst (v := (0 : Int32)) dX12_restore_1 ci_0 ?_
  refine zs_putI fl_X12_1 dX12_restore_2 (shm_0 hN) rfl ⟨rfl, rfl⟩ (fun m1 => ?_)
  refine zs_iload_n dX12_restore_5 rfl 1 rfl ?_
  refine zs_i2l dX12_restore_6 ?_
  refine zs_lconst (v := (0 : Int64)) dX12_restore_7 rfl ?_
  refine zs_lconst (v := (1 : Int64)) dX12_restore_8 rfl ?_
  refine zs_cS_iR (rest := []) (k_X12_within hN _ _ _ _) dX12_restore_9 ls_X12_163 ok_X12_within (Nat.le_of_ble_eq_true rfl) rfl rfl (Nat.le_of_ble_eq_true rfl) (fun r2 => ?_)
  refine zs_if_ne (tgt := 18) dX12_restore_12 (by decide) ?_ ?_
  · refine zs_aload_n dX12_restore_18 rfl 0 rfl ?_
    refine zs_getR fl_X12_17 dX12_restore_19 (shm_0 hN) rfl ?_
    refine zs_iload_n dX12_restore_22 rfl 1 rfl ?_
    refine zs_zaldG dX12_restore_23 (shm_2 hN) ?_
    refine zs_if_ne (tgt := 30) dX12_restore_24 (by decide) ?_ ?_
    · refine zs_iconst (v := (0 : Int32)) dX12_restore_30 ci_0 ?_
      refine zs_istore_n [(2, .int (0 : Int32)), (0, .ref (zz_a G 0)), (1, .int p1)] dX12_restore_31 rfl (Nat.le_of_ble_eq_true rfl) rfl ?_
      refine zs_sub [1, 2, 0] rfl ?_
      exact t_X12_restore_32 hN zz_fuel _ _ _
    · refine zs_bipush (v := (-5 : Int32)) dX12_restore_27 cb_m5 ?_
      exact zs_iret dX12_restore_29 rfl rfl rfl
  · refine zs_bipush (v := (-2 : Int32)) dX12_restore_15 cb_m2 ?_
    exact zs_iret dX12_restore_17 rfl rfl rfl
/-! X12_count: PillarDeskModel.count(I)I -/
theorem dX12_count_0 : decode cX12_count 0 = .ok (.aload_n 0, 1) := by decide +kernel
theorem dX12_count_1 : decode cX12_count 1 = .ok (.iconst 0, 1) := by decide +kernel
theorem dX12_count_2 : decode cX12_count 2 = .ok (.putfield 1, 3) := by decide +kernel
theorem dX12_count_5 : decode cX12_count 5 = .ok (.iload_n 1, 1) := by decide +kernel
theorem dX12_count_6 : decode cX12_count 6 = .ok (.tableswitch 122 0 9 #[54, 61, 68, 75, 82, 89, 97, 102, 110, 115], 54) := by decide +kernel
theorem dX12_count_60 : decode cX12_count 60 = .ok (.aload_n 0, 1) := by decide +kernel
theorem dX12_count_61 : decode cX12_count 61 = .ok (.getfield 13, 3) := by decide +kernel
theorem dX12_count_64 : decode cX12_count 64 = .ok (.iconst 4, 1) := by decide +kernel
theorem dX12_count_65 : decode cX12_count 65 = .ok (.iaload, 1) := by decide +kernel
theorem dX12_count_66 : decode cX12_count 66 = .ok (.ireturn, 1) := by decide +kernel
theorem dX12_count_67 : decode cX12_count 67 = .ok (.aload_n 0, 1) := by decide +kernel
theorem dX12_count_68 : decode cX12_count 68 = .ok (.getfield 13, 3) := by decide +kernel
theorem dX12_count_71 : decode cX12_count 71 = .ok (.iconst 5, 1) := by decide +kernel
theorem dX12_count_72 : decode cX12_count 72 = .ok (.iaload, 1) := by decide +kernel
theorem dX12_count_73 : decode cX12_count 73 = .ok (.ireturn, 1) := by decide +kernel
theorem dX12_count_74 : decode cX12_count 74 = .ok (.aload_n 0, 1) := by decide +kernel
theorem dX12_count_75 : decode cX12_count 75 = .ok (.getfield 13, 3) := by decide +kernel
theorem dX12_count_78 : decode cX12_count 78 = .ok (.iconst 3, 1) := by decide +kernel
theorem dX12_count_79 : decode cX12_count 79 = .ok (.iaload, 1) := by decide +kernel
theorem dX12_count_80 : decode cX12_count 80 = .ok (.ireturn, 1) := by decide +kernel
theorem dX12_count_81 : decode cX12_count 81 = .ok (.aload_n 0, 1) := by decide +kernel
theorem dX12_count_82 : decode cX12_count 82 = .ok (.getfield 13, 3) := by decide +kernel
theorem dX12_count_85 : decode cX12_count 85 = .ok (.iconst 1, 1) := by decide +kernel
theorem dX12_count_86 : decode cX12_count 86 = .ok (.iaload, 1) := by decide +kernel
theorem dX12_count_87 : decode cX12_count 87 = .ok (.ireturn, 1) := by decide +kernel
theorem dX12_count_88 : decode cX12_count 88 = .ok (.aload_n 0, 1) := by decide +kernel
theorem dX12_count_89 : decode cX12_count 89 = .ok (.getfield 13, 3) := by decide +kernel
theorem dX12_count_92 : decode cX12_count 92 = .ok (.iconst 2, 1) := by decide +kernel
theorem dX12_count_93 : decode cX12_count 93 = .ok (.iaload, 1) := by decide +kernel
theorem dX12_count_94 : decode cX12_count 94 = .ok (.ireturn, 1) := by decide +kernel
theorem dX12_count_95 : decode cX12_count 95 = .ok (.aload_n 0, 1) := by decide +kernel
theorem dX12_count_96 : decode cX12_count 96 = .ok (.getfield 13, 3) := by decide +kernel
theorem dX12_count_99 : decode cX12_count 99 = .ok (.bipush 74, 2) := by decide +kernel
theorem dX12_count_101 : decode cX12_count 101 = .ok (.iaload, 1) := by decide +kernel
theorem dX12_count_102 : decode cX12_count 102 = .ok (.ireturn, 1) := by decide +kernel
theorem dX12_count_103 : decode cX12_count 103 = .ok (.aload_n 0, 1) := by decide +kernel
theorem dX12_count_104 : decode cX12_count 104 = .ok (.invokevirtual 371, 3) := by decide +kernel
theorem dX12_count_107 : decode cX12_count 107 = .ok (.ireturn, 1) := by decide +kernel
theorem dX12_count_108 : decode cX12_count 108 = .ok (.aload_n 0, 1) := by decide +kernel
theorem dX12_count_109 : decode cX12_count 109 = .ok (.getfield 13, 3) := by decide +kernel
theorem dX12_count_112 : decode cX12_count 112 = .ok (.bipush 85, 2) := by decide +kernel
theorem dX12_count_114 : decode cX12_count 114 = .ok (.iaload, 1) := by decide +kernel
theorem dX12_count_115 : decode cX12_count 115 = .ok (.ireturn, 1) := by decide +kernel
theorem dX12_count_116 : decode cX12_count 116 = .ok (.aload_n 0, 1) := by decide +kernel
theorem dX12_count_117 : decode cX12_count 117 = .ok (.getfield 101, 3) := by decide +kernel
theorem dX12_count_120 : decode cX12_count 120 = .ok (.ireturn, 1) := by decide +kernel
theorem dX12_count_121 : decode cX12_count 121 = .ok (.aload_n 0, 1) := by decide +kernel
theorem dX12_count_122 : decode cX12_count 122 = .ok (.getfield 13, 3) := by decide +kernel
theorem dX12_count_125 : decode cX12_count 125 = .ok (.iconst 0, 1) := by decide +kernel
theorem dX12_count_126 : decode cX12_count 126 = .ok (.iaload, 1) := by decide +kernel
theorem dX12_count_127 : decode cX12_count 127 = .ok (.ireturn, 1) := by decide +kernel
theorem dX12_count_128 : decode cX12_count 128 = .ok (.iconst (-1), 1) := by decide +kernel
theorem dX12_count_129 : decode cX12_count 129 = .ok (.ireturn, 1) := by decide +kernel
def f_X12_count  (p1 : Int32) (m : zz_Mem) : Option (Int32 × zz_Mem) :=
  zz_letM (zz_setI m 0 0 (0 : Int32)) fun m1 =>
  if p1 = (0 : Int32) then (
  some (m1.1 1 4, m1))
  else if p1 = (1 : Int32) then (
  some (m1.1 1 5, m1))
  else if p1 = (2 : Int32) then (
  some (m1.1 1 3, m1))
  else if p1 = (3 : Int32) then (
  some (m1.1 1 1, m1))
  else if p1 = (4 : Int32) then (
  some (m1.1 1 2, m1))
  else if p1 = (5 : Int32) then (
  some (m1.1 1 74, m1))
  else if p1 = (6 : Int32) then (
  zz_bndR (f_X12_ratesSum m1) fun r9 =>
  some (r9, m1))
  else if p1 = (7 : Int32) then (
  some (m1.1 1 85, m1))
  else if p1 = (8 : Int32) then (
  some (m1.1 0 5, m1))
  else if p1 = (9 : Int32) then (
  some (m1.1 1 0, m1))
  else (
  some ((-1 : Int32), m1))
theorem k_X12_count {l : Launch} {G : zz_G} (hN : 26 ≤ zz_N G) : ∀ (p1 : Int32) (m : zz_Mem), zz_Con zz_shM l G mX12_count 1 [.ref (zz_a G 0), .int p1] zz_vI zz_m2 (f_X12_count p1 m) m := by
  intro p1 m
  refine zz_con (lv := [(0, .ref (zz_a G 0)), (1, .int p1)]) (by decide +kernel) (Nat.le_of_ble_eq_true rfl) rfl ?_
  unfold f_X12_count
  refine zs_aload_n dX12_count_0 rfl 0 rfl ?_
  refine zs_iconst (v := (0 : Int32)) dX12_count_1 ci_0 ?_
  refine zs_putI fl_X12_1 dX12_count_2 (shm_0 hN) rfl ⟨rfl, rfl⟩ (fun m1 => ?_)
  refine zs_iload_n dX12_count_5 rfl 1 rfl ?_
  refine zs_ite (fun h2 => ?_) (fun h2 => ?_)
  · refine zs_tswI (tgt := 60) h2 dX12_count_6 (by decide) (by decide) rfl (by decide) ?_
    refine zs_aload_n dX12_count_60 rfl 0 rfl ?_
    refine zs_getR fl_X12_13 dX12_count_61 (shm_0 hN) rfl ?_
    refine zs_iconst (v := (4 : Int32)) dX12_count_64 ci_4 ?_
    refine zs_ialdC dX12_count_65 (shm_1 hN) vin_4_3531 clp_4 ?_
    exact zs_iret dX12_count_66 rfl rfl rfl
  refine zs_ite (fun h3 => ?_) (fun h3 => ?_)
  · refine zs_tswI (tgt := 67) h3 dX12_count_6 (by decide) (by decide) rfl (by decide) ?_
    refine zs_aload_n dX12_count_67 rfl 0 rfl ?_
    refine zs_getR fl_X12_13 dX12_count_68 (shm_0 hN) rfl ?_
    refine zs_iconst (v := (5 : Int32)) dX12_count_71 ci_5 ?_
    refine zs_ialdC dX12_count_72 (shm_1 hN) vin_5_3531 clp_5 ?_
    exact zs_iret dX12_count_73 rfl rfl rfl
  refine zs_ite (fun h4 => ?_) (fun h4 => ?_)
  · refine zs_tswI (tgt := 74) h4 dX12_count_6 (by decide) (by decide) rfl (by decide) ?_
    refine zs_aload_n dX12_count_74 rfl 0 rfl ?_
    refine zs_getR fl_X12_13 dX12_count_75 (shm_0 hN) rfl ?_
    refine zs_iconst (v := (3 : Int32)) dX12_count_78 ci_3 ?_
    refine zs_ialdC dX12_count_79 (shm_1 hN) vin_3_3531 clp_3 ?_
    exact zs_iret dX12_count_80 rfl rfl rfl
  refine zs_ite (fun h5 => ?_) (fun h5 => ?_)
  · refine zs_tswI (tgt := 81) h5 dX12_count_6 (by decide) (by decide) rfl (by decide) ?_
    refine zs_aload_n dX12_count_81 rfl 0 rfl ?_
    refine zs_getR fl_X12_13 dX12_count_82 (shm_0 hN) rfl ?_
    refine zs_iconst (v := (1 : Int32)) dX12_count_85 ci_1 ?_
    refine zs_ialdC dX12_count_86 (shm_1 hN) vin_1_3531 clp_1 ?_
    exact zs_iret dX12_count_87 rfl rfl rfl
  refine zs_ite (fun h6 => ?_) (fun h6 => ?_)
  · refine zs_tswI (tgt := 88) h6 dX12_count_6 (by decide) (by decide) rfl (by decide) ?_
    refine zs_aload_n dX12_count_88 rfl 0 rfl ?_
    refine zs_getR fl_X12_13 dX12_count_89 (shm_0 hN) rfl ?_
    refine zs_iconst (v := (2 : Int32)) dX12_count_92 ci_2 ?_
    refine zs_ialdC dX12_count_93 (shm_1 hN) vin_2_3531 clp_2 ?_
    exact zs_iret dX12_count_94 rfl rfl rfl
  refine zs_ite (fun h7 => ?_) (fun h7 => ?_)
  · refine zs_tswI (tgt := 95) h7 dX12_count_6 (by decide) (by decide) rfl (by decide) ?_
    refine zs_aload_n dX12_count_95 rfl 0 rfl ?_
    refine zs_getR fl_X12_13 dX12_count_96 (shm_0 hN) rfl ?_
    refine zs_bipush (v := (74 : Int32)) dX12_count_99 cb_74 ?_
    refine zs_ialdC dX12_count_101 (shm_1 hN) vin_74_3531 clp_74 ?_
    exact zs_iret dX12_count_102 rfl rfl rfl
  refine zs_ite (fun h8 => ?_) (fun h8 => ?_)
  · refine zs_tswI (tgt := 103) h8 dX12_count_6 (by decide) (by decide) rfl (by decide) ?_
    refine zs_aload_n dX12_count_103 rfl 0 rfl ?_
    refine zs_cV_iR (rest := []) (k_X12_ratesSum hN  _) dX12_count_104 lv_X12_371 ok_X12_ratesSum (zz_rcv_o (shm_0 hN) rfl) (Nat.le_of_ble_eq_true rfl) rfl rfl (Nat.le_of_ble_eq_true rfl) (fun r9 => ?_)
    exact zs_iret dX12_count_107 rfl rfl rfl
  refine zs_ite (fun h10 => ?_) (fun h10 => ?_)
  · refine zs_tswI (tgt := 108) h10 dX12_count_6 (by decide) (by decide) rfl (by decide) ?_
    refine zs_aload_n dX12_count_108 rfl 0 rfl ?_
    refine zs_getR fl_X12_13 dX12_count_109 (shm_0 hN) rfl ?_
    refine zs_bipush (v := (85 : Int32)) dX12_count_112 cb_85 ?_
    refine zs_ialdC dX12_count_114 (shm_1 hN) vin_85_3531 clp_85 ?_
    exact zs_iret dX12_count_115 rfl rfl rfl
  refine zs_ite (fun h11 => ?_) (fun h11 => ?_)
  · refine zs_tswI (tgt := 116) h11 dX12_count_6 (by decide) (by decide) rfl (by decide) ?_
    refine zs_aload_n dX12_count_116 rfl 0 rfl ?_
    refine zs_getI fl_X12_101 dX12_count_117 (shm_0 hN) rfl ?_
    exact zs_iret dX12_count_120 rfl rfl rfl
  refine zs_ite (fun h12 => ?_) (fun h12 => ?_)
  · refine zs_tswI (tgt := 121) h12 dX12_count_6 (by decide) (by decide) rfl (by decide) ?_
    refine zs_aload_n dX12_count_121 rfl 0 rfl ?_
    refine zs_getR fl_X12_13 dX12_count_122 (shm_0 hN) rfl ?_
    refine zs_iconst (v := (0 : Int32)) dX12_count_125 ci_0 ?_
    refine zs_ialdC dX12_count_126 (shm_1 hN) vin_0_3531 clp_0 ?_
    exact zs_iret dX12_count_127 rfl rfl rfl
  refine zs_tswO (tgt := 128) dX12_count_6 (by have eh2 := lv_neT h2 (a := 0) rfl; have eh3 := lv_neT h3 (a := 1) rfl; have eh4 := lv_neT h4 (a := 2) rfl; have eh5 := lv_neT h5 (a := 3) rfl; have eh6 := lv_neT h6 (a := 4) rfl; have eh7 := lv_neT h7 (a := 5) rfl; have eh8 := lv_neT h8 (a := 6) rfl; have eh10 := lv_neT h10 (a := 7) rfl; have eh11 := lv_neT h11 (a := 8) rfl; have eh12 := lv_neT h12 (a := 9) rfl; omega) (by decide) ?_
  refine zs_iconst (v := (-1 : Int32)) dX12_count_128 ci_m1 ?_
  exact zs_iret dX12_count_129 rfl rfl rfl
