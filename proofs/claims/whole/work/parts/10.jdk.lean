/-! ===== models and walks: 10.jdk ===== -/
/-! J9_floorDiv_f86c9: java/lang/Math.floorDiv(JJ)J -/
theorem dJ9_floorDiv_f86c9_0 : decode cJ9_floorDiv_f86c9 0 = .ok (.lload_n 0, 1) := by decide +kernel
theorem dJ9_floorDiv_f86c9_1 : decode cJ9_floorDiv_f86c9 1 = .ok (.lload_n 2, 1) := by decide +kernel
theorem dJ9_floorDiv_f86c9_2 : decode cJ9_floorDiv_f86c9 2 = .ok (.ldiv, 1) := by decide +kernel
theorem dJ9_floorDiv_f86c9_3 : decode cJ9_floorDiv_f86c9 3 = .ok (.lstore 4, 2) := by decide +kernel
theorem dJ9_floorDiv_f86c9_5 : decode cJ9_floorDiv_f86c9 5 = .ok (.lload_n 0, 1) := by decide +kernel
theorem dJ9_floorDiv_f86c9_6 : decode cJ9_floorDiv_f86c9 6 = .ok (.lload_n 2, 1) := by decide +kernel
theorem dJ9_floorDiv_f86c9_7 : decode cJ9_floorDiv_f86c9 7 = .ok (.lxor, 1) := by decide +kernel
theorem dJ9_floorDiv_f86c9_8 : decode cJ9_floorDiv_f86c9 8 = .ok (.lconst 0, 1) := by decide +kernel
theorem dJ9_floorDiv_f86c9_9 : decode cJ9_floorDiv_f86c9 9 = .ok (.lcmp, 1) := by decide +kernel
theorem dJ9_floorDiv_f86c9_10 : decode cJ9_floorDiv_f86c9 10 = .ok (.ifCond .ge 17, 3) := by decide +kernel
theorem dJ9_floorDiv_f86c9_13 : decode cJ9_floorDiv_f86c9 13 = .ok (.lload 4, 2) := by decide +kernel
theorem dJ9_floorDiv_f86c9_15 : decode cJ9_floorDiv_f86c9 15 = .ok (.lload_n 2, 1) := by decide +kernel
theorem dJ9_floorDiv_f86c9_16 : decode cJ9_floorDiv_f86c9 16 = .ok (.lmul, 1) := by decide +kernel
theorem dJ9_floorDiv_f86c9_17 : decode cJ9_floorDiv_f86c9 17 = .ok (.lload_n 0, 1) := by decide +kernel
theorem dJ9_floorDiv_f86c9_18 : decode cJ9_floorDiv_f86c9 18 = .ok (.lcmp, 1) := by decide +kernel
theorem dJ9_floorDiv_f86c9_19 : decode cJ9_floorDiv_f86c9 19 = .ok (.ifCond .eq 8, 3) := by decide +kernel
theorem dJ9_floorDiv_f86c9_22 : decode cJ9_floorDiv_f86c9 22 = .ok (.lload 4, 2) := by decide +kernel
theorem dJ9_floorDiv_f86c9_24 : decode cJ9_floorDiv_f86c9 24 = .ok (.lconst 1, 1) := by decide +kernel
theorem dJ9_floorDiv_f86c9_25 : decode cJ9_floorDiv_f86c9 25 = .ok (.lsub, 1) := by decide +kernel
theorem dJ9_floorDiv_f86c9_26 : decode cJ9_floorDiv_f86c9 26 = .ok (.lreturn, 1) := by decide +kernel
theorem dJ9_floorDiv_f86c9_27 : decode cJ9_floorDiv_f86c9 27 = .ok (.lload 4, 2) := by decide +kernel
theorem dJ9_floorDiv_f86c9_29 : decode cJ9_floorDiv_f86c9 29 = .ok (.lreturn, 1) := by decide +kernel
def f_J9_floorDiv_f86c9  (p0 : Int64) (p2 : Int64) : Option Int64 :=
  zz_nzJ p2 <|
  zz_letJ (p0 / p2) fun y1 =>
  if (0 : Int64) ≤ (p0 ^^^ p2) then (
  some y1)
  else (
  if (y1 * p2) = p0 then (
  some y1)
  else (
  some (y1 - (1 : Int64))))
theorem k_J9_floorDiv_f86c9 {sh : Nat → zz_Sh} {nN : Nat} {l : Launch} {G : zz_G} (hN : nN ≤ zz_N G) : ∀ (p0 : Int64) (p2 : Int64) (m : zz_Mem), zz_Con sh l G mJ9_floorDiv_f86c9 0 [.long p0, .long p2] zz_vJr (zz_mC m) (f_J9_floorDiv_f86c9 p0 p2) m := by
  intro p0 p2 m
  refine zz_con (lv := [(0, .long p0), (2, .long p2)]) (by decide +kernel) (Nat.le_of_ble_eq_true rfl) rfl ?_
  unfold f_J9_floorDiv_f86c9
  refine zs_lload_n dJ9_floorDiv_f86c9_0 rfl 0 rfl ?_
  refine zs_lload_n dJ9_floorDiv_f86c9_1 rfl 1 rfl ?_
  refine zs_ldivG dJ9_floorDiv_f86c9_2 ?_
  refine zs_letJ (fun y1 => ?_)
  refine zs_lstore [(4, .long y1), (0, .long p0), (2, .long p2)] dJ9_floorDiv_f86c9_3 (Nat.le_of_ble_eq_true rfl) rfl ?_
  refine zs_lload_n dJ9_floorDiv_f86c9_5 rfl 1 rfl ?_
  refine zs_lload_n dJ9_floorDiv_f86c9_6 rfl 2 rfl ?_
  refine zs_lxor dJ9_floorDiv_f86c9_7 ?_
  refine zs_lconst (v := (0 : Int64)) dJ9_floorDiv_f86c9_8 rfl ?_
  refine zs_lcmp_ge (tgt := 27) dJ9_floorDiv_f86c9_9 dJ9_floorDiv_f86c9_10 (by decide) ?_ ?_
  · refine zs_lload dJ9_floorDiv_f86c9_27 0 rfl ?_
    exact zs_lret dJ9_floorDiv_f86c9_29 rfl rfl rfl
  · refine zs_lload dJ9_floorDiv_f86c9_13 0 rfl ?_
    refine zs_lload_n dJ9_floorDiv_f86c9_15 rfl 2 rfl ?_
    refine zs_lmul dJ9_floorDiv_f86c9_16 ?_
    refine zs_lload_n dJ9_floorDiv_f86c9_17 rfl 1 rfl ?_
    refine zs_lcmp_eq (tgt := 27) dJ9_floorDiv_f86c9_18 dJ9_floorDiv_f86c9_19 (by decide) ?_ ?_
    · refine zs_lload dJ9_floorDiv_f86c9_27 0 rfl ?_
      exact zs_lret dJ9_floorDiv_f86c9_29 rfl rfl rfl
    · refine zs_lload dJ9_floorDiv_f86c9_22 0 rfl ?_
      refine zs_lconst (v := (1 : Int64)) dJ9_floorDiv_f86c9_24 rfl ?_
      refine zs_lsub dJ9_floorDiv_f86c9_25 ?_
      exact zs_lret dJ9_floorDiv_f86c9_26 rfl rfl rfl
/-! J9_floorMod_7cf53: java/lang/Math.floorMod(II)I -/
theorem dJ9_floorMod_7cf53_0 : decode cJ9_floorMod_7cf53 0 = .ok (.iload_n 0, 1) := by decide +kernel
theorem dJ9_floorMod_7cf53_1 : decode cJ9_floorMod_7cf53 1 = .ok (.iload_n 1, 1) := by decide +kernel
theorem dJ9_floorMod_7cf53_2 : decode cJ9_floorMod_7cf53 2 = .ok (.irem, 1) := by decide +kernel
theorem dJ9_floorMod_7cf53_3 : decode cJ9_floorMod_7cf53 3 = .ok (.istore_n 2, 1) := by decide +kernel
theorem dJ9_floorMod_7cf53_4 : decode cJ9_floorMod_7cf53 4 = .ok (.iload_n 0, 1) := by decide +kernel
theorem dJ9_floorMod_7cf53_5 : decode cJ9_floorMod_7cf53 5 = .ok (.iload_n 1, 1) := by decide +kernel
theorem dJ9_floorMod_7cf53_6 : decode cJ9_floorMod_7cf53 6 = .ok (.ixor, 1) := by decide +kernel
theorem dJ9_floorMod_7cf53_7 : decode cJ9_floorMod_7cf53 7 = .ok (.ifCond .ge 11, 3) := by decide +kernel
theorem dJ9_floorMod_7cf53_10 : decode cJ9_floorMod_7cf53 10 = .ok (.iload_n 2, 1) := by decide +kernel
theorem dJ9_floorMod_7cf53_11 : decode cJ9_floorMod_7cf53 11 = .ok (.ifCond .eq 7, 3) := by decide +kernel
theorem dJ9_floorMod_7cf53_14 : decode cJ9_floorMod_7cf53 14 = .ok (.iload_n 2, 1) := by decide +kernel
theorem dJ9_floorMod_7cf53_15 : decode cJ9_floorMod_7cf53 15 = .ok (.iload_n 1, 1) := by decide +kernel
theorem dJ9_floorMod_7cf53_16 : decode cJ9_floorMod_7cf53 16 = .ok (.iadd, 1) := by decide +kernel
theorem dJ9_floorMod_7cf53_17 : decode cJ9_floorMod_7cf53 17 = .ok (.ireturn, 1) := by decide +kernel
theorem dJ9_floorMod_7cf53_18 : decode cJ9_floorMod_7cf53 18 = .ok (.iload_n 2, 1) := by decide +kernel
theorem dJ9_floorMod_7cf53_19 : decode cJ9_floorMod_7cf53 19 = .ok (.ireturn, 1) := by decide +kernel
def f_J9_floorMod_7cf53  (p0 : Int32) (p1 : Int32) : Option Int32 :=
  zz_nz p1 <|
  zz_letI (p0 - p0 / p1 * p1) fun x1 =>
  if 0 ≤ (p0 ^^^ p1) then (
  some x1)
  else (
  if x1 = 0 then (
  some x1)
  else (
  some (x1 + p1)))
theorem k_J9_floorMod_7cf53 {sh : Nat → zz_Sh} {nN : Nat} {l : Launch} {G : zz_G} (hN : nN ≤ zz_N G) : ∀ (p0 : Int32) (p1 : Int32) (m : zz_Mem), zz_Con sh l G mJ9_floorMod_7cf53 0 [.int p0, .int p1] zz_vIr (zz_mC m) (f_J9_floorMod_7cf53 p0 p1) m := by
  intro p0 p1 m
  refine zz_con (lv := [(0, .int p0), (1, .int p1)]) (by decide +kernel) (Nat.le_of_ble_eq_true rfl) rfl ?_
  unfold f_J9_floorMod_7cf53
  refine zs_iload_n dJ9_floorMod_7cf53_0 rfl 0 rfl ?_
  refine zs_iload_n dJ9_floorMod_7cf53_1 rfl 1 rfl ?_
  refine zs_iremG dJ9_floorMod_7cf53_2 ?_
  refine zs_letI (fun x1 => ?_)
  refine zs_istore_n [(2, .int x1), (0, .int p0), (1, .int p1)] dJ9_floorMod_7cf53_3 rfl (Nat.le_of_ble_eq_true rfl) rfl ?_
  refine zs_iload_n dJ9_floorMod_7cf53_4 rfl 1 rfl ?_
  refine zs_iload_n dJ9_floorMod_7cf53_5 rfl 2 rfl ?_
  refine zs_ixor dJ9_floorMod_7cf53_6 ?_
  refine zs_if_ge (tgt := 18) dJ9_floorMod_7cf53_7 (by decide) ?_ ?_
  · refine zs_iload_n dJ9_floorMod_7cf53_18 rfl 0 rfl ?_
    exact zs_iret dJ9_floorMod_7cf53_19 rfl rfl rfl
  · refine zs_iload_n dJ9_floorMod_7cf53_10 rfl 0 rfl ?_
    refine zs_if_eq (tgt := 18) dJ9_floorMod_7cf53_11 (by decide) ?_ ?_
    · refine zs_iload_n dJ9_floorMod_7cf53_18 rfl 0 rfl ?_
      exact zs_iret dJ9_floorMod_7cf53_19 rfl rfl rfl
    · refine zs_iload_n dJ9_floorMod_7cf53_14 rfl 0 rfl ?_
      refine zs_iload_n dJ9_floorMod_7cf53_15 rfl 2 rfl ?_
      refine zs_iadd dJ9_floorMod_7cf53_16 ?_
      exact zs_iret dJ9_floorMod_7cf53_17 rfl rfl rfl
/-! J9_abs_067f4: java/lang/Math.abs(J)J -/
theorem dJ9_abs_067f4_0 : decode cJ9_abs_067f4 0 = .ok (.lload_n 0, 1) := by decide +kernel
theorem dJ9_abs_067f4_1 : decode cJ9_abs_067f4 1 = .ok (.lconst 0, 1) := by decide +kernel
theorem dJ9_abs_067f4_2 : decode cJ9_abs_067f4 2 = .ok (.lcmp, 1) := by decide +kernel
theorem dJ9_abs_067f4_3 : decode cJ9_abs_067f4 3 = .ok (.ifCond .ge 8, 3) := by decide +kernel
theorem dJ9_abs_067f4_6 : decode cJ9_abs_067f4 6 = .ok (.lload_n 0, 1) := by decide +kernel
theorem dJ9_abs_067f4_7 : decode cJ9_abs_067f4 7 = .ok (.lneg, 1) := by decide +kernel
theorem dJ9_abs_067f4_8 : decode cJ9_abs_067f4 8 = .ok (.goto 4, 3) := by decide +kernel
theorem dJ9_abs_067f4_11 : decode cJ9_abs_067f4 11 = .ok (.lload_n 0, 1) := by decide +kernel
theorem dJ9_abs_067f4_12 : decode cJ9_abs_067f4 12 = .ok (.lreturn, 1) := by decide +kernel
def f_J9_abs_067f4  (p0 : Int64) : Option Int64 :=
  if (0 : Int64) ≤ p0 then (
  some p0)
  else (
  some (-p0))
theorem k_J9_abs_067f4 {sh : Nat → zz_Sh} {nN : Nat} {l : Launch} {G : zz_G} (hN : nN ≤ zz_N G) : ∀ (p0 : Int64) (m : zz_Mem), zz_Con sh l G mJ9_abs_067f4 0 [.long p0] zz_vJr (zz_mC m) (f_J9_abs_067f4 p0) m := by
  intro p0 m
  refine zz_con (lv := [(0, .long p0)]) (by decide +kernel) (Nat.le_of_ble_eq_true rfl) rfl ?_
  unfold f_J9_abs_067f4
  refine zs_lload_n dJ9_abs_067f4_0 rfl 0 rfl ?_
  refine zs_lconst (v := (0 : Int64)) dJ9_abs_067f4_1 rfl ?_
  refine zs_lcmp_ge (tgt := 11) dJ9_abs_067f4_2 dJ9_abs_067f4_3 (by decide) ?_ ?_
  · refine zs_lload_n dJ9_abs_067f4_11 rfl 0 rfl ?_
    exact zs_lret dJ9_abs_067f4_12 rfl rfl rfl
  · refine zs_lload_n dJ9_abs_067f4_6 rfl 0 rfl ?_
    refine zs_lneg dJ9_abs_067f4_7 ?_
    refine zs_goto (tgt := 12) dJ9_abs_067f4_8 (by decide) ?_
    exact zs_lret dJ9_abs_067f4_12 rfl rfl rfl
/-! J9_max_7cf53: java/lang/Math.max(II)I -/
theorem dJ9_max_7cf53_0 : decode cJ9_max_7cf53 0 = .ok (.iload_n 0, 1) := by decide +kernel
theorem dJ9_max_7cf53_1 : decode cJ9_max_7cf53 1 = .ok (.iload_n 1, 1) := by decide +kernel
theorem dJ9_max_7cf53_2 : decode cJ9_max_7cf53 2 = .ok (.if_icmp .lt 7, 3) := by decide +kernel
theorem dJ9_max_7cf53_5 : decode cJ9_max_7cf53 5 = .ok (.iload_n 0, 1) := by decide +kernel
theorem dJ9_max_7cf53_6 : decode cJ9_max_7cf53 6 = .ok (.goto 4, 3) := by decide +kernel
theorem dJ9_max_7cf53_9 : decode cJ9_max_7cf53 9 = .ok (.iload_n 1, 1) := by decide +kernel
theorem dJ9_max_7cf53_10 : decode cJ9_max_7cf53 10 = .ok (.ireturn, 1) := by decide +kernel
def f_J9_max_7cf53  (p0 : Int32) (p1 : Int32) : Option Int32 :=
  if p0 < p1 then (
  some p1)
  else (
  some p0)
theorem k_J9_max_7cf53 {sh : Nat → zz_Sh} {nN : Nat} {l : Launch} {G : zz_G} (hN : nN ≤ zz_N G) : ∀ (p0 : Int32) (p1 : Int32) (m : zz_Mem), zz_Con sh l G mJ9_max_7cf53 0 [.int p0, .int p1] zz_vIr (zz_mC m) (f_J9_max_7cf53 p0 p1) m := by
  intro p0 p1 m
  refine zz_con (lv := [(0, .int p0), (1, .int p1)]) (by decide +kernel) (Nat.le_of_ble_eq_true rfl) rfl ?_
  unfold f_J9_max_7cf53
  refine zs_iload_n dJ9_max_7cf53_0 rfl 0 rfl ?_
  refine zs_iload_n dJ9_max_7cf53_1 rfl 1 rfl ?_
  refine zs_icmp_lt (tgt := 9) dJ9_max_7cf53_2 (by decide) ?_ ?_
  · refine zs_iload_n dJ9_max_7cf53_9 rfl 1 rfl ?_
    exact zs_iret dJ9_max_7cf53_10 rfl rfl rfl
  · refine zs_iload_n dJ9_max_7cf53_5 rfl 0 rfl ?_
    refine zs_goto (tgt := 10) dJ9_max_7cf53_6 (by decide) ?_
    exact zs_iret dJ9_max_7cf53_10 rfl rfl rfl
/-! J9_max_f86c9: java/lang/Math.max(JJ)J -/
theorem dJ9_max_f86c9_0 : decode cJ9_max_f86c9 0 = .ok (.lload_n 0, 1) := by decide +kernel
theorem dJ9_max_f86c9_1 : decode cJ9_max_f86c9 1 = .ok (.lload_n 2, 1) := by decide +kernel
theorem dJ9_max_f86c9_2 : decode cJ9_max_f86c9 2 = .ok (.lcmp, 1) := by decide +kernel
theorem dJ9_max_f86c9_3 : decode cJ9_max_f86c9 3 = .ok (.ifCond .lt 7, 3) := by decide +kernel
theorem dJ9_max_f86c9_6 : decode cJ9_max_f86c9 6 = .ok (.lload_n 0, 1) := by decide +kernel
theorem dJ9_max_f86c9_7 : decode cJ9_max_f86c9 7 = .ok (.goto 4, 3) := by decide +kernel
theorem dJ9_max_f86c9_10 : decode cJ9_max_f86c9 10 = .ok (.lload_n 2, 1) := by decide +kernel
theorem dJ9_max_f86c9_11 : decode cJ9_max_f86c9 11 = .ok (.lreturn, 1) := by decide +kernel
def f_J9_max_f86c9  (p0 : Int64) (p2 : Int64) : Option Int64 :=
  if p0 < p2 then (
  some p2)
  else (
  some p0)
theorem k_J9_max_f86c9 {sh : Nat → zz_Sh} {nN : Nat} {l : Launch} {G : zz_G} (hN : nN ≤ zz_N G) : ∀ (p0 : Int64) (p2 : Int64) (m : zz_Mem), zz_Con sh l G mJ9_max_f86c9 0 [.long p0, .long p2] zz_vJr (zz_mC m) (f_J9_max_f86c9 p0 p2) m := by
  intro p0 p2 m
  refine zz_con (lv := [(0, .long p0), (2, .long p2)]) (by decide +kernel) (Nat.le_of_ble_eq_true rfl) rfl ?_
  unfold f_J9_max_f86c9
  refine zs_lload_n dJ9_max_f86c9_0 rfl 0 rfl ?_
  refine zs_lload_n dJ9_max_f86c9_1 rfl 1 rfl ?_
  refine zs_lcmp_lt (tgt := 10) dJ9_max_f86c9_2 dJ9_max_f86c9_3 (by decide) ?_ ?_
  · refine zs_lload_n dJ9_max_f86c9_10 rfl 1 rfl ?_
    exact zs_lret dJ9_max_f86c9_11 rfl rfl rfl
  · refine zs_lload_n dJ9_max_f86c9_6 rfl 0 rfl ?_
    refine zs_goto (tgt := 11) dJ9_max_f86c9_7 (by decide) ?_
    exact zs_lret dJ9_max_f86c9_11 rfl rfl rfl
/-! J9_min_7cf53: java/lang/Math.min(II)I -/
theorem dJ9_min_7cf53_0 : decode cJ9_min_7cf53 0 = .ok (.iload_n 0, 1) := by decide +kernel
theorem dJ9_min_7cf53_1 : decode cJ9_min_7cf53 1 = .ok (.iload_n 1, 1) := by decide +kernel
theorem dJ9_min_7cf53_2 : decode cJ9_min_7cf53 2 = .ok (.if_icmp .gt 7, 3) := by decide +kernel
theorem dJ9_min_7cf53_5 : decode cJ9_min_7cf53 5 = .ok (.iload_n 0, 1) := by decide +kernel
theorem dJ9_min_7cf53_6 : decode cJ9_min_7cf53 6 = .ok (.goto 4, 3) := by decide +kernel
theorem dJ9_min_7cf53_9 : decode cJ9_min_7cf53 9 = .ok (.iload_n 1, 1) := by decide +kernel
theorem dJ9_min_7cf53_10 : decode cJ9_min_7cf53 10 = .ok (.ireturn, 1) := by decide +kernel
def f_J9_min_7cf53  (p0 : Int32) (p1 : Int32) : Option Int32 :=
  if p1 < p0 then (
  some p1)
  else (
  some p0)
theorem k_J9_min_7cf53 {sh : Nat → zz_Sh} {nN : Nat} {l : Launch} {G : zz_G} (hN : nN ≤ zz_N G) : ∀ (p0 : Int32) (p1 : Int32) (m : zz_Mem), zz_Con sh l G mJ9_min_7cf53 0 [.int p0, .int p1] zz_vIr (zz_mC m) (f_J9_min_7cf53 p0 p1) m := by
  intro p0 p1 m
  refine zz_con (lv := [(0, .int p0), (1, .int p1)]) (by decide +kernel) (Nat.le_of_ble_eq_true rfl) rfl ?_
  unfold f_J9_min_7cf53
  refine zs_iload_n dJ9_min_7cf53_0 rfl 0 rfl ?_
  refine zs_iload_n dJ9_min_7cf53_1 rfl 1 rfl ?_
  refine zs_icmp_gt (tgt := 9) dJ9_min_7cf53_2 (by decide) ?_ ?_
  · refine zs_iload_n dJ9_min_7cf53_9 rfl 1 rfl ?_
    exact zs_iret dJ9_min_7cf53_10 rfl rfl rfl
  · refine zs_iload_n dJ9_min_7cf53_5 rfl 0 rfl ?_
    refine zs_goto (tgt := 10) dJ9_min_7cf53_6 (by decide) ?_
    exact zs_iret dJ9_min_7cf53_10 rfl rfl rfl
/-! J9_min_f86c9: java/lang/Math.min(JJ)J -/
theorem dJ9_min_f86c9_0 : decode cJ9_min_f86c9 0 = .ok (.lload_n 0, 1) := by decide +kernel
theorem dJ9_min_f86c9_1 : decode cJ9_min_f86c9 1 = .ok (.lload_n 2, 1) := by decide +kernel
theorem dJ9_min_f86c9_2 : decode cJ9_min_f86c9 2 = .ok (.lcmp, 1) := by decide +kernel
theorem dJ9_min_f86c9_3 : decode cJ9_min_f86c9 3 = .ok (.ifCond .gt 7, 3) := by decide +kernel
theorem dJ9_min_f86c9_6 : decode cJ9_min_f86c9 6 = .ok (.lload_n 0, 1) := by decide +kernel
theorem dJ9_min_f86c9_7 : decode cJ9_min_f86c9 7 = .ok (.goto 4, 3) := by decide +kernel
theorem dJ9_min_f86c9_10 : decode cJ9_min_f86c9 10 = .ok (.lload_n 2, 1) := by decide +kernel
theorem dJ9_min_f86c9_11 : decode cJ9_min_f86c9 11 = .ok (.lreturn, 1) := by decide +kernel
def f_J9_min_f86c9  (p0 : Int64) (p2 : Int64) : Option Int64 :=
  if p2 < p0 then (
  some p2)
  else (
  some p0)
theorem k_J9_min_f86c9 {sh : Nat → zz_Sh} {nN : Nat} {l : Launch} {G : zz_G} (hN : nN ≤ zz_N G) : ∀ (p0 : Int64) (p2 : Int64) (m : zz_Mem), zz_Con sh l G mJ9_min_f86c9 0 [.long p0, .long p2] zz_vJr (zz_mC m) (f_J9_min_f86c9 p0 p2) m := by
  intro p0 p2 m
  refine zz_con (lv := [(0, .long p0), (2, .long p2)]) (by decide +kernel) (Nat.le_of_ble_eq_true rfl) rfl ?_
  unfold f_J9_min_f86c9
  refine zs_lload_n dJ9_min_f86c9_0 rfl 0 rfl ?_
  refine zs_lload_n dJ9_min_f86c9_1 rfl 1 rfl ?_
  refine zs_lcmp_gt (tgt := 10) dJ9_min_f86c9_2 dJ9_min_f86c9_3 (by decide) ?_ ?_
  · refine zs_lload_n dJ9_min_f86c9_10 rfl 1 rfl ?_
    exact zs_lret dJ9_min_f86c9_11 rfl rfl rfl
  · refine zs_lload_n dJ9_min_f86c9_6 rfl 0 rfl ?_
    refine zs_goto (tgt := 11) dJ9_min_f86c9_7 (by decide) ?_
    exact zs_lret dJ9_min_f86c9_11 rfl rfl rfl
/-! J7_fill_031fb: java/util/Arrays.fill([BB)V -/
theorem dJ7_fill_031fb_0 : decode cJ7_fill_031fb 0 = .ok (.iconst 0, 1) := by decide +kernel
theorem dJ7_fill_031fb_1 : decode cJ7_fill_031fb 1 = .ok (.istore_n 2, 1) := by decide +kernel
theorem dJ7_fill_031fb_2 : decode cJ7_fill_031fb 2 = .ok (.aload_n 0, 1) := by decide +kernel
theorem dJ7_fill_031fb_3 : decode cJ7_fill_031fb 3 = .ok (.arraylength, 1) := by decide +kernel
theorem dJ7_fill_031fb_4 : decode cJ7_fill_031fb 4 = .ok (.istore_n 3, 1) := by decide +kernel
theorem dJ7_fill_031fb_5 : decode cJ7_fill_031fb 5 = .ok (.iload_n 2, 1) := by decide +kernel
theorem dJ7_fill_031fb_6 : decode cJ7_fill_031fb 6 = .ok (.iload_n 3, 1) := by decide +kernel
theorem dJ7_fill_031fb_7 : decode cJ7_fill_031fb 7 = .ok (.if_icmp .ge 13, 3) := by decide +kernel
theorem dJ7_fill_031fb_10 : decode cJ7_fill_031fb 10 = .ok (.aload_n 0, 1) := by decide +kernel
theorem dJ7_fill_031fb_11 : decode cJ7_fill_031fb 11 = .ok (.iload_n 2, 1) := by decide +kernel
theorem dJ7_fill_031fb_12 : decode cJ7_fill_031fb 12 = .ok (.iload_n 1, 1) := by decide +kernel
theorem dJ7_fill_031fb_13 : decode cJ7_fill_031fb 13 = .ok (.bastore, 1) := by decide +kernel
theorem dJ7_fill_031fb_14 : decode cJ7_fill_031fb 14 = .ok (.iinc 2 1, 3) := by decide +kernel
theorem dJ7_fill_031fb_17 : decode cJ7_fill_031fb 17 = .ok (.goto (-12), 3) := by decide +kernel
theorem dJ7_fill_031fb_20 : decode cJ7_fill_031fb 20 = .ok (.return_, 1) := by decide +kernel
def f_J7_fill_031fb_5   : Nat → Int32 → Int32 → Int32 → zz_Mem → Option zz_Mem
  | 0, _, _, _, _ => none
  | n + 1, v1, v2, v3, m =>
  if v3 ≤ v2 then (
  some m)
  else (
  zz_ix v2 2048 <| zz_letM (zz_setI m 82 v2.toNatClampNeg (vp_nar .byte v1)) fun m1 =>
  zz_letI (v2 + (1 : Int32)) fun x2 =>
  f_J7_fill_031fb_5 n v1 x2 v3 m1)
theorem t_J7_fill_031fb_5 {l : Launch} {G : zz_G} (hN : 107 ≤ zz_N G)  : ∀ (n : Nat) (v1 : Int32) (v2 : Int32) (v3 : Int32) (m : zz_Mem), zz_Sim zz_sh l G mJ7_fill_031fb 0 zz_vV zz_mV (f_J7_fill_031fb_5 n v1 v2 v3 m) 5 [(0, .ref (zz_a G 82)), (1, .int v1), (2, .int v2), (3, .int v3)] [] m := by
  intro n
  induction n with
  | zero => intro _ _ _ _; exact zs_none
  | succ n ih =>
    intro v1 v2 v3 m
    rw [f_J7_fill_031fb_5]
    refine zs_iload_n dJ7_fill_031fb_5 rfl 2 rfl ?_
    refine zs_iload_n dJ7_fill_031fb_6 rfl 3 rfl ?_
    refine zs_icmp_ge (tgt := 20) dJ7_fill_031fb_7 (by decide) ?_ ?_
    · exact zs_vret dJ7_fill_031fb_20 rfl rfl rfl
    · refine zs_aload_n dJ7_fill_031fb_10 rfl 0 rfl ?_
      refine zs_iload_n dJ7_fill_031fb_11 rfl 2 rfl ?_
      refine zs_iload_n dJ7_fill_031fb_12 rfl 1 rfl ?_
      refine zs_bastG dJ7_fill_031fb_13 (sh_82 hN) (fun m1 => ?_)
      refine zs_iinc (fun y => [(2, .int y), (0, .ref (zz_a G 82)), (1, .int v1), (3, .int v3)]) dJ7_fill_031fb_14 2 rfl ci_1 (Nat.le_of_ble_eq_true rfl) (fun _ => rfl) (fun x2 => ?_)
      refine zs_goto (tgt := 5) dJ7_fill_031fb_17 (by decide) ?_
      refine zs_sub [1, 2, 0, 3] rfl ?_
      exact ih _ _ _ _
def f_J7_fill_031fb  (p1 : Int32) (m : zz_Mem) : Option zz_Mem :=
  f_J7_fill_031fb_5 zz_fuel p1 (0 : Int32) (2048 : Int32) m
theorem k_J7_fill_031fb {l : Launch} {G : zz_G} (hN : 107 ≤ zz_N G) : ∀ (p1 : Int32) (m : zz_Mem), zz_Con zz_sh l G mJ7_fill_031fb 0 [.ref (zz_a G 82), .int p1] zz_vV zz_mV (f_J7_fill_031fb p1 m) m := by
  intro p1 m
  refine zz_con (lv := [(0, .ref (zz_a G 82)), (1, .int p1)]) (by decide +kernel) (Nat.le_of_ble_eq_true rfl) rfl ?_
  unfold f_J7_fill_031fb
  refine zs_iconst (v := (0 : Int32)) dJ7_fill_031fb_0 ci_0 ?_
  refine zs_istore_n [(2, .int (0 : Int32)), (0, .ref (zz_a G 82)), (1, .int p1)] dJ7_fill_031fb_1 rfl (Nat.le_of_ble_eq_true rfl) rfl ?_
  refine zs_aload_n dJ7_fill_031fb_2 rfl 1 rfl ?_
  refine zs_alen2 (v := (2048 : Int32)) dJ7_fill_031fb_3 (sh_82 hN) al_2048 ?_
  refine zs_istore_n [(3, .int (2048 : Int32)), (2, .int (0 : Int32)), (0, .ref (zz_a G 82)), (1, .int p1)] dJ7_fill_031fb_4 rfl (Nat.le_of_ble_eq_true rfl) rfl ?_
  refine zs_sub [2, 3, 1, 0] rfl ?_
  exact t_J7_fill_031fb_5 hN zz_fuel _ _ _ _
/-! J7_fill_d0a16: java/util/Arrays.fill([JJ)V -/
theorem dJ7_fill_d0a16_0 : decode cJ7_fill_d0a16 0 = .ok (.iconst 0, 1) := by decide +kernel
theorem dJ7_fill_d0a16_1 : decode cJ7_fill_d0a16 1 = .ok (.istore_n 3, 1) := by decide +kernel
theorem dJ7_fill_d0a16_2 : decode cJ7_fill_d0a16 2 = .ok (.aload_n 0, 1) := by decide +kernel
theorem dJ7_fill_d0a16_3 : decode cJ7_fill_d0a16 3 = .ok (.arraylength, 1) := by decide +kernel
theorem dJ7_fill_d0a16_4 : decode cJ7_fill_d0a16 4 = .ok (.istore 4, 2) := by decide +kernel
theorem dJ7_fill_d0a16_6 : decode cJ7_fill_d0a16 6 = .ok (.iload_n 3, 1) := by decide +kernel
theorem dJ7_fill_d0a16_7 : decode cJ7_fill_d0a16 7 = .ok (.iload 4, 2) := by decide +kernel
theorem dJ7_fill_d0a16_9 : decode cJ7_fill_d0a16 9 = .ok (.if_icmp .ge 13, 3) := by decide +kernel
theorem dJ7_fill_d0a16_12 : decode cJ7_fill_d0a16 12 = .ok (.aload_n 0, 1) := by decide +kernel
theorem dJ7_fill_d0a16_13 : decode cJ7_fill_d0a16 13 = .ok (.iload_n 3, 1) := by decide +kernel
theorem dJ7_fill_d0a16_14 : decode cJ7_fill_d0a16 14 = .ok (.lload_n 1, 1) := by decide +kernel
theorem dJ7_fill_d0a16_15 : decode cJ7_fill_d0a16 15 = .ok (.lastore, 1) := by decide +kernel
theorem dJ7_fill_d0a16_16 : decode cJ7_fill_d0a16 16 = .ok (.iinc 3 1, 3) := by decide +kernel
theorem dJ7_fill_d0a16_19 : decode cJ7_fill_d0a16 19 = .ok (.goto (-13), 3) := by decide +kernel
theorem dJ7_fill_d0a16_22 : decode cJ7_fill_d0a16 22 = .ok (.return_, 1) := by decide +kernel
def f_J7_fill_d0a16_6 (a0 : Nat)  : Nat → Int64 → Int32 → Int32 → zz_Mem → Option zz_Mem
  | 0, _, _, _, _ => none
  | n + 1, v1, v3, v4, m =>
  if v4 ≤ v3 then (
  some m)
  else (
  zz_ix v3 40 <| zz_letM (zz_setJ m a0 v3.toNatClampNeg v1) fun m1 =>
  zz_letI (v3 + (1 : Int32)) fun x2 =>
  f_J7_fill_d0a16_6 a0 n v1 x2 v4 m1)
theorem t_J7_fill_d0a16_6 {l : Launch} {G : zz_G} (hN : 107 ≤ zz_N G) {a0 : Nat} (ha0 : zz_SH zz_sh G a0 (1, 40, []))  : ∀ (n : Nat) (v1 : Int64) (v3 : Int32) (v4 : Int32) (m : zz_Mem), zz_Sim zz_sh l G mJ7_fill_d0a16 0 zz_vV zz_mV (f_J7_fill_d0a16_6 a0 n v1 v3 v4 m) 6 [(0, .ref (zz_a G a0)), (1, .long v1), (3, .int v3), (4, .int v4)] [] m := by
  intro n
  induction n with
  | zero => intro _ _ _ _; exact zs_none
  | succ n ih =>
    intro v1 v3 v4 m
    rw [f_J7_fill_d0a16_6]
    refine zs_iload_n dJ7_fill_d0a16_6 rfl 2 rfl ?_
    refine zs_iload dJ7_fill_d0a16_7 3 rfl ?_
    refine zs_icmp_ge (tgt := 22) dJ7_fill_d0a16_9 (by decide) ?_ ?_
    · exact zs_vret dJ7_fill_d0a16_22 rfl rfl rfl
    · refine zs_aload_n dJ7_fill_d0a16_12 rfl 0 rfl ?_
      refine zs_iload_n dJ7_fill_d0a16_13 rfl 2 rfl ?_
      refine zs_lload_n dJ7_fill_d0a16_14 rfl 1 rfl ?_
      refine zs_lastG dJ7_fill_d0a16_15 ha0 (fun m1 => ?_)
      refine zs_iinc (fun y => [(3, .int y), (0, .ref (zz_a G a0)), (1, .long v1), (4, .int v4)]) dJ7_fill_d0a16_16 2 rfl ci_1 (Nat.le_of_ble_eq_true rfl) (fun _ => rfl) (fun x2 => ?_)
      refine zs_goto (tgt := 6) dJ7_fill_d0a16_19 (by decide) ?_
      refine zs_sub [1, 2, 0, 3] rfl ?_
      exact ih _ _ _ _
def f_J7_fill_d0a16 (a0 : Nat) (p1 : Int64) (m : zz_Mem) : Option zz_Mem :=
  f_J7_fill_d0a16_6 a0 zz_fuel p1 (0 : Int32) (40 : Int32) m
theorem k_J7_fill_d0a16 {l : Launch} {G : zz_G} (hN : 107 ≤ zz_N G) {a0 : Nat} (ha0 : zz_SH zz_sh G a0 (1, 40, [])) : ∀ (p1 : Int64) (m : zz_Mem), zz_Con zz_sh l G mJ7_fill_d0a16 0 [.ref (zz_a G a0), .long p1] zz_vV zz_mV (f_J7_fill_d0a16 a0 p1 m) m := by
  intro p1 m
  refine zz_con (lv := [(0, .ref (zz_a G a0)), (1, .long p1)]) (by decide +kernel) (Nat.le_of_ble_eq_true rfl) rfl ?_
  unfold f_J7_fill_d0a16
  refine zs_iconst (v := (0 : Int32)) dJ7_fill_d0a16_0 ci_0 ?_
  refine zs_istore_n [(3, .int (0 : Int32)), (0, .ref (zz_a G a0)), (1, .long p1)] dJ7_fill_d0a16_1 rfl (Nat.le_of_ble_eq_true rfl) rfl ?_
  refine zs_aload_n dJ7_fill_d0a16_2 rfl 1 rfl ?_
  refine zs_alen1 (v := (40 : Int32)) dJ7_fill_d0a16_3 ha0 al_40 ?_
  refine zs_istore [(4, .int (40 : Int32)), (3, .int (0 : Int32)), (0, .ref (zz_a G a0)), (1, .long p1)] dJ7_fill_d0a16_4 (Nat.le_of_ble_eq_true rfl) rfl ?_
  refine zs_sub [2, 3, 1, 0] rfl ?_
  exact t_J7_fill_d0a16_6 hN ha0 zz_fuel _ _ _ _
/-! J0_coder_7d493: java/lang/String.coder()B -/
theorem dJ0_coder_7d493_0 : decode cJ0_coder_7d493 0 = .ok (.getstatic 38, 3) := by decide +kernel
theorem dJ0_coder_7d493_3 : decode cJ0_coder_7d493 3 = .ok (.ifCond .eq 10, 3) := by decide +kernel
theorem dJ0_coder_7d493_6 : decode cJ0_coder_7d493 6 = .ok (.aload_n 0, 1) := by decide +kernel
theorem dJ0_coder_7d493_7 : decode cJ0_coder_7d493 7 = .ok (.getfield 15, 3) := by decide +kernel
theorem dJ0_coder_7d493_10 : decode cJ0_coder_7d493 10 = .ok (.goto 4, 3) := by decide +kernel
theorem dJ0_coder_7d493_13 : decode cJ0_coder_7d493 13 = .ok (.iconst 1, 1) := by decide +kernel
theorem dJ0_coder_7d493_14 : decode cJ0_coder_7d493 14 = .ok (.ireturn, 1) := by decide +kernel
def f_J0_coder_7d493 (w : Nat)  : Option Int32 :=
  if (1 : Int32) = 0 then (
  some (1 : Int32))
  else (
  some (0 : Int32))
theorem k_J0_coder_7d493 {sh : Nat → zz_Sh} {nN : Nat} {l : Launch} {G : zz_G} (hN : nN ≤ zz_N G) {w : Nat} (hw : w < 30) : ∀ (m : zz_Mem), zz_Con sh l G mJ0_coder_7d493 0 [.ref (zz_sk G w)] zz_vIr (zz_mC m) (f_J0_coder_7d493 w) m := by
  intro m
  refine zz_con (lv := [(0, .ref (zz_sk G w))]) (by decide +kernel) (Nat.le_of_ble_eq_true rfl) rfl ?_
  unfold f_J0_coder_7d493
  refine zs_compact dJ0_coder_7d493_0 fs_J0_38 ?_
  refine zs_if_eq (tgt := 13) dJ0_coder_7d493_3 (by decide) ?_ ?_
  · refine zs_iconst (v := (1 : Int32)) dJ0_coder_7d493_13 ci_1 ?_
    exact zs_zret dJ0_coder_7d493_14 rfl rfl rfl rfl
  · refine zs_aload_n dJ0_coder_7d493_6 rfl 0 rfl ?_
    refine zs_strC dJ0_coder_7d493_7 hw fs_J0_15 ?_
    refine zs_goto (tgt := 14) dJ0_coder_7d493_10 (by decide) ?_
    exact zs_zret dJ0_coder_7d493_14 rfl rfl rfl rfl
/-! J0_isLatin1_aae02: java/lang/String.isLatin1()Z -/
theorem dJ0_isLatin1_aae02_0 : decode cJ0_isLatin1_aae02 0 = .ok (.getstatic 38, 3) := by decide +kernel
theorem dJ0_isLatin1_aae02_3 : decode cJ0_isLatin1_aae02 3 = .ok (.ifCond .eq 14, 3) := by decide +kernel
theorem dJ0_isLatin1_aae02_6 : decode cJ0_isLatin1_aae02 6 = .ok (.aload_n 0, 1) := by decide +kernel
theorem dJ0_isLatin1_aae02_7 : decode cJ0_isLatin1_aae02 7 = .ok (.getfield 15, 3) := by decide +kernel
theorem dJ0_isLatin1_aae02_10 : decode cJ0_isLatin1_aae02 10 = .ok (.ifCond .ne 7, 3) := by decide +kernel
theorem dJ0_isLatin1_aae02_13 : decode cJ0_isLatin1_aae02 13 = .ok (.iconst 1, 1) := by decide +kernel
theorem dJ0_isLatin1_aae02_14 : decode cJ0_isLatin1_aae02 14 = .ok (.goto 4, 3) := by decide +kernel
theorem dJ0_isLatin1_aae02_17 : decode cJ0_isLatin1_aae02 17 = .ok (.iconst 0, 1) := by decide +kernel
theorem dJ0_isLatin1_aae02_18 : decode cJ0_isLatin1_aae02 18 = .ok (.ireturn, 1) := by decide +kernel
def f_J0_isLatin1_aae02 (w : Nat)  : Option Int32 :=
  if (1 : Int32) = 0 then (
  some (0 : Int32))
  else (
  if (0 : Int32) = 0 then (
  some (1 : Int32))
  else (
  some (0 : Int32)))
theorem k_J0_isLatin1_aae02 {sh : Nat → zz_Sh} {nN : Nat} {l : Launch} {G : zz_G} (hN : nN ≤ zz_N G) {w : Nat} (hw : w < 30) : ∀ (m : zz_Mem), zz_Con sh l G mJ0_isLatin1_aae02 0 [.ref (zz_sk G w)] zz_vIr (zz_mC m) (f_J0_isLatin1_aae02 w) m := by
  intro m
  refine zz_con (lv := [(0, .ref (zz_sk G w))]) (by decide +kernel) (Nat.le_of_ble_eq_true rfl) rfl ?_
  unfold f_J0_isLatin1_aae02
  refine zs_compact dJ0_isLatin1_aae02_0 fs_J0_38 ?_
  refine zs_if_eq (tgt := 17) dJ0_isLatin1_aae02_3 (by decide) ?_ ?_
  · refine zs_iconst (v := (0 : Int32)) dJ0_isLatin1_aae02_17 ci_0 ?_
    exact zs_zret dJ0_isLatin1_aae02_18 rfl rfl rfl rfl
  · refine zs_aload_n dJ0_isLatin1_aae02_6 rfl 0 rfl ?_
    refine zs_strC dJ0_isLatin1_aae02_7 hw fs_J0_15 ?_
    refine zs_if_ne (tgt := 17) dJ0_isLatin1_aae02_10 (by decide) ?_ ?_
    · refine zs_iconst (v := (0 : Int32)) dJ0_isLatin1_aae02_17 ci_0 ?_
      exact zs_zret dJ0_isLatin1_aae02_18 rfl rfl rfl rfl
    · refine zs_iconst (v := (1 : Int32)) dJ0_isLatin1_aae02_13 ci_1 ?_
      refine zs_goto (tgt := 18) dJ0_isLatin1_aae02_14 (by decide) ?_
      exact zs_zret dJ0_isLatin1_aae02_18 rfl rfl rfl rfl
/-! J0_length_8abf5: java/lang/String.length()I -/
theorem dJ0_length_8abf5_0 : decode cJ0_length_8abf5 0 = .ok (.aload_n 0, 1) := by decide +kernel
theorem dJ0_length_8abf5_1 : decode cJ0_length_8abf5 1 = .ok (.getfield 9, 3) := by decide +kernel
theorem dJ0_length_8abf5_4 : decode cJ0_length_8abf5 4 = .ok (.arraylength, 1) := by decide +kernel
theorem dJ0_length_8abf5_5 : decode cJ0_length_8abf5 5 = .ok (.aload_n 0, 1) := by decide +kernel
theorem dJ0_length_8abf5_6 : decode cJ0_length_8abf5 6 = .ok (.invokevirtual 335, 3) := by decide +kernel
theorem dJ0_length_8abf5_9 : decode cJ0_length_8abf5 9 = .ok (.ishr, 1) := by decide +kernel
theorem dJ0_length_8abf5_10 : decode cJ0_length_8abf5 10 = .ok (.ireturn, 1) := by decide +kernel
def f_J0_length_8abf5 (w : Nat)  : Option Int32 :=
  zz_bndR (f_J0_coder_7d493 w) fun r1 =>
  some ((Int32.ofNat (zz_sl w)) >>> (r1 &&& 31))
theorem k_J0_length_8abf5 {sh : Nat → zz_Sh} {nN : Nat} {l : Launch} {G : zz_G} (hN : nN ≤ zz_N G) {w : Nat} (hw : w < 30) : ∀ (m : zz_Mem), zz_Con sh l G mJ0_length_8abf5 1 [.ref (zz_sk G w)] zz_vIr (zz_mC m) (f_J0_length_8abf5 w) m := by
  intro m
  refine zz_con (lv := [(0, .ref (zz_sk G w))]) (by decide +kernel) (Nat.le_of_ble_eq_true rfl) rfl ?_
  unfold f_J0_length_8abf5
  refine zs_aload_n dJ0_length_8abf5_0 rfl 0 rfl ?_
  refine zs_strV dJ0_length_8abf5_1 hw fs_J0_9 ?_
  refine zs_svlen dJ0_length_8abf5_4 hw ?_
  refine zs_aload_n dJ0_length_8abf5_5 rfl 0 rfl ?_
  refine zs_cV_iR (rest := [.int (Int32.ofNat (zz_sl w))]) (k_J0_coder_7d493 hN hw  _) dJ0_length_8abf5_6 lv_J0_335 ok_J0_coder_7d493 (zz_rcv_s hw) (Nat.le_of_ble_eq_true rfl) rfl rfl (Nat.le_of_ble_eq_true rfl) (fun r1 => ?_)
  refine zs_ishr dJ0_length_8abf5_9 ?_
  exact zs_iret dJ0_length_8abf5_10 rfl rfl rfl
/-! J1_canEncode_9a6ad: java/lang/StringLatin1.canEncode(I)Z -/
theorem dJ1_canEncode_9a6ad_0 : decode cJ1_canEncode_9a6ad 0 = .ok (.iload_n 0, 1) := by decide +kernel
theorem dJ1_canEncode_9a6ad_1 : decode cJ1_canEncode_9a6ad 1 = .ok (.ifCond .lt 14, 3) := by decide +kernel
theorem dJ1_canEncode_9a6ad_4 : decode cJ1_canEncode_9a6ad 4 = .ok (.iload_n 0, 1) := by decide +kernel
theorem dJ1_canEncode_9a6ad_5 : decode cJ1_canEncode_9a6ad 5 = .ok (.sipush 255, 3) := by decide +kernel
theorem dJ1_canEncode_9a6ad_8 : decode cJ1_canEncode_9a6ad 8 = .ok (.if_icmp .gt 7, 3) := by decide +kernel
theorem dJ1_canEncode_9a6ad_11 : decode cJ1_canEncode_9a6ad 11 = .ok (.iconst 1, 1) := by decide +kernel
theorem dJ1_canEncode_9a6ad_12 : decode cJ1_canEncode_9a6ad 12 = .ok (.goto 4, 3) := by decide +kernel
theorem dJ1_canEncode_9a6ad_15 : decode cJ1_canEncode_9a6ad 15 = .ok (.iconst 0, 1) := by decide +kernel
theorem dJ1_canEncode_9a6ad_16 : decode cJ1_canEncode_9a6ad 16 = .ok (.ireturn, 1) := by decide +kernel
def f_J1_canEncode_9a6ad  (p0 : Int32) : Option Int32 :=
  if p0 < 0 then (
  some (0 : Int32))
  else (
  if (255 : Int32) < p0 then (
  some (0 : Int32))
  else (
  some (1 : Int32)))
theorem k_J1_canEncode_9a6ad {sh : Nat → zz_Sh} {nN : Nat} {l : Launch} {G : zz_G} (hN : nN ≤ zz_N G) : ∀ (p0 : Int32) (m : zz_Mem), zz_Con sh l G mJ1_canEncode_9a6ad 0 [.int p0] zz_vIr (zz_mC m) (f_J1_canEncode_9a6ad p0) m := by
  intro p0 m
  refine zz_con (lv := [(0, .int p0)]) (by decide +kernel) (Nat.le_of_ble_eq_true rfl) rfl ?_
  unfold f_J1_canEncode_9a6ad
  refine zs_iload_n dJ1_canEncode_9a6ad_0 rfl 0 rfl ?_
  refine zs_if_lt (tgt := 15) dJ1_canEncode_9a6ad_1 (by decide) ?_ ?_
  · refine zs_iconst (v := (0 : Int32)) dJ1_canEncode_9a6ad_15 ci_0 ?_
    exact zs_zret dJ1_canEncode_9a6ad_16 rfl rfl rfl rfl
  · refine zs_iload_n dJ1_canEncode_9a6ad_4 rfl 0 rfl ?_
    refine zs_sipush (v := (255 : Int32)) dJ1_canEncode_9a6ad_5 cs_255 ?_
    refine zs_icmp_gt (tgt := 15) dJ1_canEncode_9a6ad_8 (by decide) ?_ ?_
    · refine zs_iconst (v := (0 : Int32)) dJ1_canEncode_9a6ad_15 ci_0 ?_
      exact zs_zret dJ1_canEncode_9a6ad_16 rfl rfl rfl rfl
    · refine zs_iconst (v := (1 : Int32)) dJ1_canEncode_9a6ad_11 ci_1 ?_
      refine zs_goto (tgt := 16) dJ1_canEncode_9a6ad_12 (by decide) ?_
      exact zs_zret dJ1_canEncode_9a6ad_16 rfl rfl rfl rfl
/-! J1_indexOfChar_4cfef: java/lang/StringLatin1.indexOfChar([BIII)I -/
theorem dJ1_indexOfChar_4cfef_0 : decode cJ1_indexOfChar_4cfef 0 = .ok (.iload_n 1, 1) := by decide +kernel
theorem dJ1_indexOfChar_4cfef_1 : decode cJ1_indexOfChar_4cfef 1 = .ok (.i2b, 1) := by decide +kernel
theorem dJ1_indexOfChar_4cfef_2 : decode cJ1_indexOfChar_4cfef 2 = .ok (.istore 4, 2) := by decide +kernel
theorem dJ1_indexOfChar_4cfef_4 : decode cJ1_indexOfChar_4cfef 4 = .ok (.iload_n 2, 1) := by decide +kernel
theorem dJ1_indexOfChar_4cfef_5 : decode cJ1_indexOfChar_4cfef 5 = .ok (.istore 5, 2) := by decide +kernel
theorem dJ1_indexOfChar_4cfef_7 : decode cJ1_indexOfChar_4cfef 7 = .ok (.iload 5, 2) := by decide +kernel
theorem dJ1_indexOfChar_4cfef_9 : decode cJ1_indexOfChar_4cfef 9 = .ok (.iload_n 3, 1) := by decide +kernel
theorem dJ1_indexOfChar_4cfef_10 : decode cJ1_indexOfChar_4cfef 10 = .ok (.if_icmp .ge 21, 3) := by decide +kernel
theorem dJ1_indexOfChar_4cfef_13 : decode cJ1_indexOfChar_4cfef 13 = .ok (.aload_n 0, 1) := by decide +kernel
theorem dJ1_indexOfChar_4cfef_14 : decode cJ1_indexOfChar_4cfef 14 = .ok (.iload 5, 2) := by decide +kernel
theorem dJ1_indexOfChar_4cfef_16 : decode cJ1_indexOfChar_4cfef 16 = .ok (.baload, 1) := by decide +kernel
theorem dJ1_indexOfChar_4cfef_17 : decode cJ1_indexOfChar_4cfef 17 = .ok (.iload 4, 2) := by decide +kernel
theorem dJ1_indexOfChar_4cfef_19 : decode cJ1_indexOfChar_4cfef 19 = .ok (.if_icmp .ne 6, 3) := by decide +kernel
theorem dJ1_indexOfChar_4cfef_22 : decode cJ1_indexOfChar_4cfef 22 = .ok (.iload 5, 2) := by decide +kernel
theorem dJ1_indexOfChar_4cfef_24 : decode cJ1_indexOfChar_4cfef 24 = .ok (.ireturn, 1) := by decide +kernel
theorem dJ1_indexOfChar_4cfef_25 : decode cJ1_indexOfChar_4cfef 25 = .ok (.iinc 5 1, 3) := by decide +kernel
theorem dJ1_indexOfChar_4cfef_28 : decode cJ1_indexOfChar_4cfef 28 = .ok (.goto (-21), 3) := by decide +kernel
theorem dJ1_indexOfChar_4cfef_31 : decode cJ1_indexOfChar_4cfef 31 = .ok (.iconst (-1), 1) := by decide +kernel
theorem dJ1_indexOfChar_4cfef_32 : decode cJ1_indexOfChar_4cfef 32 = .ok (.ireturn, 1) := by decide +kernel
def f_J1_indexOfChar_4cfef_7 (w0 : Nat)  : Nat → Int32 → Int32 → Int32 → Option Int32
  | 0, _, _, _ => none
  | n + 1, v3, v4, v5 =>
  if v3 ≤ v5 then (
  some (-1 : Int32))
  else (
  zz_ix v5 (zz_sl w0) <|
  if (zz_sb w0 v5.toNatClampNeg) = v4 then (
  some v5)
  else (
  zz_letI (v5 + (1 : Int32)) fun x1 =>
  f_J1_indexOfChar_4cfef_7 w0 n v3 v4 x1))
theorem t_J1_indexOfChar_4cfef_7 {sh : Nat → zz_Sh} {nN : Nat} {l : Launch} {G : zz_G} (hN : nN ≤ zz_N G) {w0 : Nat} (hw0 : w0 < 30) {m : zz_Mem}  : ∀ (n : Nat) (v3 : Int32) (v4 : Int32) (v5 : Int32), zz_Sim sh l G mJ1_indexOfChar_4cfef 0 zz_vIr (zz_mC m) (f_J1_indexOfChar_4cfef_7 w0 n v3 v4 v5) 7 [(0, .ref (zz_sv G w0)), (3, .int v3), (4, .int v4), (5, .int v5)] [] m := by
  intro n
  induction n with
  | zero => intro _ _ _; exact zs_none
  | succ n ih =>
    intro v3 v4 v5
    rw [f_J1_indexOfChar_4cfef_7]
    refine zs_iload dJ1_indexOfChar_4cfef_7 3 rfl ?_
    refine zs_iload_n dJ1_indexOfChar_4cfef_9 rfl 1 rfl ?_
    refine zs_icmp_ge (tgt := 31) dJ1_indexOfChar_4cfef_10 (by decide) ?_ ?_
    · refine zs_iconst (v := (-1 : Int32)) dJ1_indexOfChar_4cfef_31 ci_m1 ?_
      exact zs_iret dJ1_indexOfChar_4cfef_32 rfl rfl rfl
    · refine zs_aload_n dJ1_indexOfChar_4cfef_13 rfl 0 rfl ?_
      refine zs_iload dJ1_indexOfChar_4cfef_14 3 rfl ?_
      refine zs_svld dJ1_indexOfChar_4cfef_16 hw0 ?_
      refine zs_iload dJ1_indexOfChar_4cfef_17 2 rfl ?_
      refine zs_icmp_ne (tgt := 25) dJ1_indexOfChar_4cfef_19 (by decide) ?_ ?_
      · refine zs_iinc (fun y => [(5, .int y), (0, .ref (zz_sv G w0)), (3, .int v3), (4, .int v4)]) dJ1_indexOfChar_4cfef_25 3 rfl ci_1 (Nat.le_of_ble_eq_true rfl) (fun _ => rfl) (fun x1 => ?_)
        refine zs_goto (tgt := 7) dJ1_indexOfChar_4cfef_28 (by decide) ?_
        refine zs_sub [1, 2, 3, 0] rfl ?_
        exact ih _ _ _
      · refine zs_iload dJ1_indexOfChar_4cfef_22 3 rfl ?_
        exact zs_iret dJ1_indexOfChar_4cfef_24 rfl rfl rfl
def f_J1_indexOfChar_4cfef (w0 : Nat) (p1 : Int32) (p2 : Int32) (p3 : Int32) : Option Int32 :=
  zz_letI p1.toInt8.toInt32 fun x1 =>
  f_J1_indexOfChar_4cfef_7 w0 zz_fuel p3 x1 p2
theorem k_J1_indexOfChar_4cfef {sh : Nat → zz_Sh} {nN : Nat} {l : Launch} {G : zz_G} (hN : nN ≤ zz_N G) {w0 : Nat} (hw0 : w0 < 30) : ∀ (p1 : Int32) (p2 : Int32) (p3 : Int32) (m : zz_Mem), zz_Con sh l G mJ1_indexOfChar_4cfef 0 [.ref (zz_sv G w0), .int p1, .int p2, .int p3] zz_vIr (zz_mC m) (f_J1_indexOfChar_4cfef w0 p1 p2 p3) m := by
  intro p1 p2 p3 m
  refine zz_con (lv := [(0, .ref (zz_sv G w0)), (1, .int p1), (2, .int p2), (3, .int p3)]) (by decide +kernel) (Nat.le_of_ble_eq_true rfl) rfl ?_
  unfold f_J1_indexOfChar_4cfef
  refine zs_iload_n dJ1_indexOfChar_4cfef_0 rfl 1 rfl ?_
  refine zs_i2b dJ1_indexOfChar_4cfef_1 ?_
  refine zs_letI (fun x1 => ?_)
  refine zs_istore [(4, .int x1), (0, .ref (zz_sv G w0)), (1, .int p1), (2, .int p2), (3, .int p3)] dJ1_indexOfChar_4cfef_2 (Nat.le_of_ble_eq_true rfl) rfl ?_
  refine zs_iload_n dJ1_indexOfChar_4cfef_4 rfl 3 rfl ?_
  refine zs_istore [(5, .int p2), (4, .int x1), (0, .ref (zz_sv G w0)), (1, .int p1), (2, .int p2), (3, .int p3)] dJ1_indexOfChar_4cfef_5 (Nat.le_of_ble_eq_true rfl) rfl ?_
  refine zs_sub [2, 5, 1, 0] rfl ?_
  exact t_J1_indexOfChar_4cfef_7 hN hw0 zz_fuel _ _ _
/-! J1_indexOf_4cfef: java/lang/StringLatin1.indexOf([BIII)I -/
theorem dJ1_indexOf_4cfef_0 : decode cJ1_indexOf_4cfef 0 = .ok (.iload_n 1, 1) := by decide +kernel
theorem dJ1_indexOf_4cfef_1 : decode cJ1_indexOf_4cfef 1 = .ok (.invokestatic 88, 3) := by decide +kernel
theorem dJ1_indexOf_4cfef_4 : decode cJ1_indexOf_4cfef 4 = .ok (.ifCond .ne 5, 3) := by decide +kernel
theorem dJ1_indexOf_4cfef_7 : decode cJ1_indexOf_4cfef 7 = .ok (.iconst (-1), 1) := by decide +kernel
theorem dJ1_indexOf_4cfef_8 : decode cJ1_indexOf_4cfef 8 = .ok (.ireturn, 1) := by decide +kernel
theorem dJ1_indexOf_4cfef_9 : decode cJ1_indexOf_4cfef 9 = .ok (.iload_n 2, 1) := by decide +kernel
theorem dJ1_indexOf_4cfef_10 : decode cJ1_indexOf_4cfef 10 = .ok (.iconst 0, 1) := by decide +kernel
theorem dJ1_indexOf_4cfef_11 : decode cJ1_indexOf_4cfef 11 = .ok (.invokestatic 92, 3) := by decide +kernel
theorem dJ1_indexOf_4cfef_14 : decode cJ1_indexOf_4cfef 14 = .ok (.istore_n 2, 1) := by decide +kernel
theorem dJ1_indexOf_4cfef_15 : decode cJ1_indexOf_4cfef 15 = .ok (.iload_n 3, 1) := by decide +kernel
theorem dJ1_indexOf_4cfef_16 : decode cJ1_indexOf_4cfef 16 = .ok (.aload_n 0, 1) := by decide +kernel
theorem dJ1_indexOf_4cfef_17 : decode cJ1_indexOf_4cfef 17 = .ok (.arraylength, 1) := by decide +kernel
theorem dJ1_indexOf_4cfef_18 : decode cJ1_indexOf_4cfef 18 = .ok (.invokestatic 38, 3) := by decide +kernel
theorem dJ1_indexOf_4cfef_21 : decode cJ1_indexOf_4cfef 21 = .ok (.istore_n 3, 1) := by decide +kernel
theorem dJ1_indexOf_4cfef_22 : decode cJ1_indexOf_4cfef 22 = .ok (.iload_n 2, 1) := by decide +kernel
theorem dJ1_indexOf_4cfef_23 : decode cJ1_indexOf_4cfef 23 = .ok (.iload_n 3, 1) := by decide +kernel
theorem dJ1_indexOf_4cfef_24 : decode cJ1_indexOf_4cfef 24 = .ok (.if_icmp .lt 5, 3) := by decide +kernel
theorem dJ1_indexOf_4cfef_27 : decode cJ1_indexOf_4cfef 27 = .ok (.iconst (-1), 1) := by decide +kernel
theorem dJ1_indexOf_4cfef_28 : decode cJ1_indexOf_4cfef 28 = .ok (.ireturn, 1) := by decide +kernel
theorem dJ1_indexOf_4cfef_29 : decode cJ1_indexOf_4cfef 29 = .ok (.aload_n 0, 1) := by decide +kernel
theorem dJ1_indexOf_4cfef_30 : decode cJ1_indexOf_4cfef 30 = .ok (.iload_n 1, 1) := by decide +kernel
theorem dJ1_indexOf_4cfef_31 : decode cJ1_indexOf_4cfef 31 = .ok (.iload_n 2, 1) := by decide +kernel
theorem dJ1_indexOf_4cfef_32 : decode cJ1_indexOf_4cfef 32 = .ok (.iload_n 3, 1) := by decide +kernel
theorem dJ1_indexOf_4cfef_33 : decode cJ1_indexOf_4cfef 33 = .ok (.invokestatic 95, 3) := by decide +kernel
theorem dJ1_indexOf_4cfef_36 : decode cJ1_indexOf_4cfef 36 = .ok (.ireturn, 1) := by decide +kernel
def f_J1_indexOf_4cfef (w0 : Nat) (p1 : Int32) (p2 : Int32) (p3 : Int32) : Option Int32 :=
  zz_bndR (f_J1_canEncode_9a6ad p1) fun r1 =>
  if r1 = 0 then (
  some (-1 : Int32))
  else (
  zz_bndR (f_J9_max_7cf53 p2 (0 : Int32)) fun r2 =>
  zz_bndR (f_J9_min_7cf53 p3 (Int32.ofNat (zz_sl w0))) fun r3 =>
  if r2 < r3 then (
  zz_bndR (f_J1_indexOfChar_4cfef w0 p1 r2 r3) fun r4 =>
  some r4)
  else (
  some (-1 : Int32)))
theorem k_J1_indexOf_4cfef {sh : Nat → zz_Sh} {nN : Nat} {l : Launch} {G : zz_G} (hN : nN ≤ zz_N G) {w0 : Nat} (hw0 : w0 < 30) : ∀ (p1 : Int32) (p2 : Int32) (p3 : Int32) (m : zz_Mem), zz_Con sh l G mJ1_indexOf_4cfef 1 [.ref (zz_sv G w0), .int p1, .int p2, .int p3] zz_vIr (zz_mC m) (f_J1_indexOf_4cfef w0 p1 p2 p3) m := by
  intro p1 p2 p3 m
  refine zz_con (lv := [(0, .ref (zz_sv G w0)), (1, .int p1), (2, .int p2), (3, .int p3)]) (by decide +kernel) (Nat.le_of_ble_eq_true rfl) rfl ?_
  unfold f_J1_indexOf_4cfef
  refine zs_iload_n dJ1_indexOf_4cfef_0 rfl 1 rfl ?_
  refine zs_cS_iR (rest := []) (k_J1_canEncode_9a6ad hN _ _) dJ1_indexOf_4cfef_1 ls_J1_88 ok_J1_canEncode_9a6ad (Nat.le_of_ble_eq_true rfl) rfl rfl (Nat.le_of_ble_eq_true rfl) (fun r1 => ?_)
  refine zs_if_ne (tgt := 9) dJ1_indexOf_4cfef_4 (by decide) ?_ ?_
  · refine zs_iload_n dJ1_indexOf_4cfef_9 rfl 2 rfl ?_
    refine zs_iconst (v := (0 : Int32)) dJ1_indexOf_4cfef_10 ci_0 ?_
    refine zs_cS_iR (rest := []) (k_J9_max_7cf53 hN _ _ _) dJ1_indexOf_4cfef_11 ls_J1_92 ok_J9_max_7cf53 (Nat.le_of_ble_eq_true rfl) rfl rfl (Nat.le_of_ble_eq_true rfl) (fun r2 => ?_)
    refine zs_istore_n [(2, .int r2), (0, .ref (zz_sv G w0)), (1, .int p1), (3, .int p3)] dJ1_indexOf_4cfef_14 rfl (Nat.le_of_ble_eq_true rfl) rfl ?_
    refine zs_iload_n dJ1_indexOf_4cfef_15 rfl 3 rfl ?_
    refine zs_aload_n dJ1_indexOf_4cfef_16 rfl 1 rfl ?_
    refine zs_svlen dJ1_indexOf_4cfef_17 hw0 ?_
    refine zs_cS_iR (rest := []) (k_J9_min_7cf53 hN _ _ _) dJ1_indexOf_4cfef_18 ls_J1_38 ok_J9_min_7cf53 (Nat.le_of_ble_eq_true rfl) rfl rfl (Nat.le_of_ble_eq_true rfl) (fun r3 => ?_)
    refine zs_istore_n [(3, .int r3), (2, .int r2), (0, .ref (zz_sv G w0)), (1, .int p1)] dJ1_indexOf_4cfef_21 rfl (Nat.le_of_ble_eq_true rfl) rfl ?_
    refine zs_iload_n dJ1_indexOf_4cfef_22 rfl 1 rfl ?_
    refine zs_iload_n dJ1_indexOf_4cfef_23 rfl 0 rfl ?_
    refine zs_icmp_lt (tgt := 29) dJ1_indexOf_4cfef_24 (by decide) ?_ ?_
    · refine zs_aload_n dJ1_indexOf_4cfef_29 rfl 2 rfl ?_
      refine zs_iload_n dJ1_indexOf_4cfef_30 rfl 3 rfl ?_
      refine zs_iload_n dJ1_indexOf_4cfef_31 rfl 1 rfl ?_
      refine zs_iload_n dJ1_indexOf_4cfef_32 rfl 0 rfl ?_
      refine zs_cS_iR (rest := []) (k_J1_indexOfChar_4cfef hN hw0 _ _ _ _) dJ1_indexOf_4cfef_33 ls_J1_95 ok_J1_indexOfChar_4cfef (Nat.le_of_ble_eq_true rfl) rfl rfl (Nat.le_of_ble_eq_true rfl) (fun r4 => ?_)
      exact zs_iret dJ1_indexOf_4cfef_36 rfl rfl rfl
    · refine zs_iconst (v := (-1 : Int32)) dJ1_indexOf_4cfef_27 ci_m1 ?_
      exact zs_iret dJ1_indexOf_4cfef_28 rfl rfl rfl
  · refine zs_iconst (v := (-1 : Int32)) dJ1_indexOf_4cfef_7 ci_m1 ?_
    exact zs_iret dJ1_indexOf_4cfef_8 rfl rfl rfl
/-! J0_indexOf_7cf53: java/lang/String.indexOf(II)I -/
theorem dJ0_indexOf_7cf53_0 : decode cJ0_indexOf_7cf53 0 = .ok (.aload_n 0, 1) := by decide +kernel
theorem dJ0_indexOf_7cf53_1 : decode cJ0_indexOf_7cf53 1 = .ok (.invokevirtual 492, 3) := by decide +kernel
theorem dJ0_indexOf_7cf53_4 : decode cJ0_indexOf_7cf53 4 = .ok (.ifCond .eq 19, 3) := by decide +kernel
theorem dJ0_indexOf_7cf53_7 : decode cJ0_indexOf_7cf53 7 = .ok (.aload_n 0, 1) := by decide +kernel
theorem dJ0_indexOf_7cf53_8 : decode cJ0_indexOf_7cf53 8 = .ok (.getfield 9, 3) := by decide +kernel
theorem dJ0_indexOf_7cf53_11 : decode cJ0_indexOf_7cf53 11 = .ok (.iload_n 1, 1) := by decide +kernel
theorem dJ0_indexOf_7cf53_12 : decode cJ0_indexOf_7cf53 12 = .ok (.iload_n 2, 1) := by decide +kernel
theorem dJ0_indexOf_7cf53_13 : decode cJ0_indexOf_7cf53 13 = .ok (.aload_n 0, 1) := by decide +kernel
theorem dJ0_indexOf_7cf53_14 : decode cJ0_indexOf_7cf53 14 = .ok (.invokevirtual 505, 3) := by decide +kernel
theorem dJ0_indexOf_7cf53_17 : decode cJ0_indexOf_7cf53 17 = .ok (.invokestatic 637, 3) := by decide +kernel
theorem dJ0_indexOf_7cf53_20 : decode cJ0_indexOf_7cf53 20 = .ok (.goto 16, 3) := by decide +kernel
theorem dJ0_indexOf_7cf53_23 : decode cJ0_indexOf_7cf53 23 = .ok (.aload_n 0, 1) := by decide +kernel
theorem dJ0_indexOf_7cf53_24 : decode cJ0_indexOf_7cf53 24 = .ok (.getfield 9, 3) := by decide +kernel
theorem dJ0_indexOf_7cf53_27 : decode cJ0_indexOf_7cf53 27 = .ok (.iload_n 1, 1) := by decide +kernel
theorem dJ0_indexOf_7cf53_28 : decode cJ0_indexOf_7cf53 28 = .ok (.iload_n 2, 1) := by decide +kernel
theorem dJ0_indexOf_7cf53_29 : decode cJ0_indexOf_7cf53 29 = .ok (.aload_n 0, 1) := by decide +kernel
theorem dJ0_indexOf_7cf53_30 : decode cJ0_indexOf_7cf53 30 = .ok (.invokevirtual 505, 3) := by decide +kernel
theorem dJ0_indexOf_7cf53_33 : decode cJ0_indexOf_7cf53 33 = .ok (.invokestatic 640, 3) := by decide +kernel
theorem dJ0_indexOf_7cf53_36 : decode cJ0_indexOf_7cf53 36 = .ok (.ireturn, 1) := by decide +kernel
def f_J0_indexOf_7cf53 (w : Nat) (p1 : Int32) (p2 : Int32) : Option Int32 :=
  zz_bndR (f_J0_isLatin1_aae02 w) fun r1 =>
  if r1 = 0 then (
  zz_bndR (f_J0_length_8abf5 w) fun r2 =>
  none)
  else (
  zz_bndR (f_J0_length_8abf5 w) fun r3 =>
  zz_bndR (f_J1_indexOf_4cfef w p1 p2 r3) fun r4 =>
  some r4)
theorem k_J0_indexOf_7cf53 {sh : Nat → zz_Sh} {nN : Nat} {l : Launch} {G : zz_G} (hN : nN ≤ zz_N G) {w : Nat} (hw : w < 30) : ∀ (p1 : Int32) (p2 : Int32) (m : zz_Mem), zz_Con sh l G mJ0_indexOf_7cf53 2 [.ref (zz_sk G w), .int p1, .int p2] zz_vIr (zz_mC m) (f_J0_indexOf_7cf53 w p1 p2) m := by
  intro p1 p2 m
  refine zz_con (lv := [(0, .ref (zz_sk G w)), (1, .int p1), (2, .int p2)]) (by decide +kernel) (Nat.le_of_ble_eq_true rfl) rfl ?_
  unfold f_J0_indexOf_7cf53
  refine zs_aload_n dJ0_indexOf_7cf53_0 rfl 0 rfl ?_
  refine zs_cV_iR (rest := []) (k_J0_isLatin1_aae02 hN hw  _) dJ0_indexOf_7cf53_1 lv_J0_492 ok_J0_isLatin1_aae02 (zz_rcv_s hw) (Nat.le_of_ble_eq_true rfl) rfl rfl (Nat.le_of_ble_eq_true rfl) (fun r1 => ?_)
  refine zs_if_eq (tgt := 23) dJ0_indexOf_7cf53_4 (by decide) ?_ ?_
  · refine zs_aload_n dJ0_indexOf_7cf53_23 rfl 0 rfl ?_
    refine zs_strV dJ0_indexOf_7cf53_24 hw fs_J0_9 ?_
    refine zs_iload_n dJ0_indexOf_7cf53_27 rfl 1 rfl ?_
    refine zs_iload_n dJ0_indexOf_7cf53_28 rfl 2 rfl ?_
    refine zs_aload_n dJ0_indexOf_7cf53_29 rfl 0 rfl ?_
    refine zs_cV_iR (rest := [.int p2, .int p1, .ref (zz_sv G w)]) (k_J0_length_8abf5 hN hw  _) dJ0_indexOf_7cf53_30 lv_J0_505 ok_J0_length_8abf5 (zz_rcv_s hw) (Nat.le_of_ble_eq_true rfl) rfl rfl (Nat.le_of_ble_eq_true rfl) (fun r2 => ?_)
    exact zs_none
  · refine zs_aload_n dJ0_indexOf_7cf53_7 rfl 0 rfl ?_
    refine zs_strV dJ0_indexOf_7cf53_8 hw fs_J0_9 ?_
    refine zs_iload_n dJ0_indexOf_7cf53_11 rfl 1 rfl ?_
    refine zs_iload_n dJ0_indexOf_7cf53_12 rfl 2 rfl ?_
    refine zs_aload_n dJ0_indexOf_7cf53_13 rfl 0 rfl ?_
    refine zs_cV_iR (rest := [.int p2, .int p1, .ref (zz_sv G w)]) (k_J0_length_8abf5 hN hw  _) dJ0_indexOf_7cf53_14 lv_J0_505 ok_J0_length_8abf5 (zz_rcv_s hw) (Nat.le_of_ble_eq_true rfl) rfl rfl (Nat.le_of_ble_eq_true rfl) (fun r3 => ?_)
    refine zs_cS_iR (rest := []) (k_J1_indexOf_4cfef hN hw _ _ _ _) dJ0_indexOf_7cf53_17 ls_J0_637 ok_J1_indexOf_4cfef (Nat.le_of_ble_eq_true rfl) rfl rfl (Nat.le_of_ble_eq_true rfl) (fun r4 => ?_)
    refine zs_goto (tgt := 36) dJ0_indexOf_7cf53_20 (by decide) ?_
    exact zs_iret dJ0_indexOf_7cf53_36 rfl rfl rfl
/-! J0_indexOf_0f7a4: java/lang/String.indexOf(I)I -/
theorem dJ0_indexOf_0f7a4_0 : decode cJ0_indexOf_0f7a4 0 = .ok (.aload_n 0, 1) := by decide +kernel
theorem dJ0_indexOf_0f7a4_1 : decode cJ0_indexOf_0f7a4 1 = .ok (.iload_n 1, 1) := by decide +kernel
theorem dJ0_indexOf_0f7a4_2 : decode cJ0_indexOf_0f7a4 2 = .ok (.iconst 0, 1) := by decide +kernel
theorem dJ0_indexOf_0f7a4_3 : decode cJ0_indexOf_0f7a4 3 = .ok (.invokevirtual 633, 3) := by decide +kernel
theorem dJ0_indexOf_0f7a4_6 : decode cJ0_indexOf_0f7a4 6 = .ok (.ireturn, 1) := by decide +kernel
def f_J0_indexOf_0f7a4 (w : Nat) (p1 : Int32) : Option Int32 :=
  zz_bndR (f_J0_indexOf_7cf53 w p1 (0 : Int32)) fun r1 =>
  some r1
theorem k_J0_indexOf_0f7a4 {sh : Nat → zz_Sh} {nN : Nat} {l : Launch} {G : zz_G} (hN : nN ≤ zz_N G) {w : Nat} (hw : w < 30) : ∀ (p1 : Int32) (m : zz_Mem), zz_Con sh l G mJ0_indexOf_0f7a4 3 [.ref (zz_sk G w), .int p1] zz_vIr (zz_mC m) (f_J0_indexOf_0f7a4 w p1) m := by
  intro p1 m
  refine zz_con (lv := [(0, .ref (zz_sk G w)), (1, .int p1)]) (by decide +kernel) (Nat.le_of_ble_eq_true rfl) rfl ?_
  unfold f_J0_indexOf_0f7a4
  refine zs_aload_n dJ0_indexOf_0f7a4_0 rfl 0 rfl ?_
  refine zs_iload_n dJ0_indexOf_0f7a4_1 rfl 1 rfl ?_
  refine zs_iconst (v := (0 : Int32)) dJ0_indexOf_0f7a4_2 ci_0 ?_
  refine zs_cV_iR (rest := []) (k_J0_indexOf_7cf53 hN hw _ _ _) dJ0_indexOf_0f7a4_3 lv_J0_633 ok_J0_indexOf_7cf53 (zz_rcv_s hw) (Nat.le_of_ble_eq_true rfl) rfl rfl (Nat.le_of_ble_eq_true rfl) (fun r1 => ?_)
  exact zs_iret dJ0_indexOf_0f7a4_6 rfl rfl rfl
/-! J3_checkIndex_8e157: jdk/internal/util/Preconditions.checkIndex(IILjava/util/function/BiFunction;)I -/
theorem dJ3_checkIndex_8e157_0 : decode cJ3_checkIndex_8e157 0 = .ok (.iload_n 0, 1) := by decide +kernel
theorem dJ3_checkIndex_8e157_1 : decode cJ3_checkIndex_8e157 1 = .ok (.ifCond .lt 8, 3) := by decide +kernel
theorem dJ3_checkIndex_8e157_4 : decode cJ3_checkIndex_8e157 4 = .ok (.iload_n 0, 1) := by decide +kernel
theorem dJ3_checkIndex_8e157_5 : decode cJ3_checkIndex_8e157 5 = .ok (.iload_n 1, 1) := by decide +kernel
theorem dJ3_checkIndex_8e157_6 : decode cJ3_checkIndex_8e157 6 = .ok (.if_icmp .lt 10, 3) := by decide +kernel
theorem dJ3_checkIndex_8e157_9 : decode cJ3_checkIndex_8e157 9 = .ok (.aload_n 2, 1) := by decide +kernel
theorem dJ3_checkIndex_8e157_10 : decode cJ3_checkIndex_8e157 10 = .ok (.iload_n 0, 1) := by decide +kernel
theorem dJ3_checkIndex_8e157_11 : decode cJ3_checkIndex_8e157 11 = .ok (.iload_n 1, 1) := by decide +kernel
theorem dJ3_checkIndex_8e157_12 : decode cJ3_checkIndex_8e157 12 = .ok (.invokestatic 95, 3) := by decide +kernel
theorem dJ3_checkIndex_8e157_15 : decode cJ3_checkIndex_8e157 15 = .ok (.athrow, 1) := by decide +kernel
theorem dJ3_checkIndex_8e157_16 : decode cJ3_checkIndex_8e157 16 = .ok (.iload_n 0, 1) := by decide +kernel
theorem dJ3_checkIndex_8e157_17 : decode cJ3_checkIndex_8e157 17 = .ok (.ireturn, 1) := by decide +kernel
def f_J3_checkIndex_8e157 (p0 : Int32) (p1 : Int32) : Option Int32 :=
  if p0 < 0 then none else (if p0 < p1 then some p0 else none)
theorem k_J3_checkIndex_8e157 {sh : Nat → zz_Sh} {nN : Nat} {l : Launch} {G : zz_G} (hN : nN ≤ zz_N G) {fv : Value} (hfv : fv = Value.null ∨ ∃ t, fv = Value.ref t) : ∀ (p0 : Int32) (p1 : Int32) (m : zz_Mem), zz_Con sh l G mJ3_checkIndex_8e157 0 [.int p0, .int p1, fv] zz_vIr (zz_mC m) (f_J3_checkIndex_8e157 p0 p1) m := by
  intro p0 p1 m
  rcases hfv with rfl | ⟨t, rfl⟩
  · refine zz_con (lv := [(0, .int p0), (1, .int p1), (2, .null)]) (by decide +kernel) (Nat.le_of_ble_eq_true rfl) rfl ?_
    unfold f_J3_checkIndex_8e157
    refine zs_iload_n dJ3_checkIndex_8e157_0 rfl 0 rfl ?_
    refine zs_if_lt (tgt := 9) dJ3_checkIndex_8e157_1 (by decide) ?_ ?_
    · exact zs_none
    · refine zs_iload_n dJ3_checkIndex_8e157_4 rfl 0 rfl ?_
      refine zs_iload_n dJ3_checkIndex_8e157_5 rfl 1 rfl ?_
      refine zs_icmp_lt (tgt := 16) dJ3_checkIndex_8e157_6 (by decide) ?_ ?_
      · refine zs_iload_n dJ3_checkIndex_8e157_16 rfl 0 rfl ?_
        exact zs_iret dJ3_checkIndex_8e157_17 rfl rfl rfl
      · exact zs_none
  · refine zz_con (lv := [(0, .int p0), (1, .int p1), (2, .ref t)]) (by decide +kernel) (Nat.le_of_ble_eq_true rfl) rfl ?_
    unfold f_J3_checkIndex_8e157
    refine zs_iload_n dJ3_checkIndex_8e157_0 rfl 0 rfl ?_
    refine zs_if_lt (tgt := 9) dJ3_checkIndex_8e157_1 (by decide) ?_ ?_
    · exact zs_none
    · refine zs_iload_n dJ3_checkIndex_8e157_4 rfl 0 rfl ?_
      refine zs_iload_n dJ3_checkIndex_8e157_5 rfl 1 rfl ?_
      refine zs_icmp_lt (tgt := 16) dJ3_checkIndex_8e157_6 (by decide) ?_ ?_
      · refine zs_iload_n dJ3_checkIndex_8e157_16 rfl 0 rfl ?_
        exact zs_iret dJ3_checkIndex_8e157_17 rfl rfl rfl
      · exact zs_none
/-! J0_checkIndex_df160: java/lang/String.checkIndex(II)V -/
theorem dJ0_checkIndex_df160_0 : decode cJ0_checkIndex_df160 0 = .ok (.iload_n 0, 1) := by decide +kernel
theorem dJ0_checkIndex_df160_1 : decode cJ0_checkIndex_df160 1 = .ok (.iload_n 1, 1) := by decide +kernel
theorem dJ0_checkIndex_df160_2 : decode cJ0_checkIndex_df160 2 = .ok (.getstatic 1053, 3) := by decide +kernel
theorem dJ0_checkIndex_df160_5 : decode cJ0_checkIndex_df160 5 = .ok (.invokestatic 1059, 3) := by decide +kernel
theorem dJ0_checkIndex_df160_8 : decode cJ0_checkIndex_df160 8 = .ok (.pop, 1) := by decide +kernel
theorem dJ0_checkIndex_df160_9 : decode cJ0_checkIndex_df160 9 = .ok (.return_, 1) := by decide +kernel
theorem zs_fmt {sh : Nat → zz_Sh} {l : Launch} {G : zz_G} {M : zz_M} {d : Nat} {τ : Type} {val : τ → Option Value} {mem : τ → zz_Mem} {f : Option τ} {pc idx : Nat} {lv : List (Nat × Value)} {st : List Value} {μ : zz_Mem} (hd : decode M.2.1 pc = .ok (.getstatic idx, 3)) (hl0 : Cond.fieldLink M.1.cls idx "jdk/internal/util/Preconditions" "SIOOBE_FORMATTER" "Ljava/util/function/BiFunction;" ∈ zz_tbl) (k : ∀ fv, (fv = Value.null ∨ ∃ t, fv = Value.ref t) → zz_Sim sh l G M d val mem f (pc + 3) lv (fv :: st) μ) : zz_Sim sh l G M d val mem f pc lv st μ := by
  intro q hq p e s m args below meth c C H locs ls hP hS hl
  rcases C.2.2.2.2.2.2.2.2.2.1.2.2 with h | ⟨t, h⟩
  · exact va_gets C.1 C.2.1 h hS C.2.2.2.2.1 (C.2.2.2.2.2.1 _ (List.mem_cons_of_mem _ hl0)) (fun _ h9 => h9) hd (k _ (Or.inl rfl) q hq p e s m args below meth c C H locs ls hP hS hl)
  · exact va_gets C.1 C.2.1 h hS C.2.2.2.2.1 (C.2.2.2.2.2.1 _ (List.mem_cons_of_mem _ hl0)) (fun _ h9 => h9) hd (k _ (Or.inr ⟨t, rfl⟩) q hq p e s m args below meth c C H locs ls hP hS hl)
def f_J0_checkIndex_df160 (p0 : Int32) (p1 : Int32) : Option Unit :=
  zz_bndR (f_J3_checkIndex_8e157 p0 p1) fun _ => some ()
theorem k_J0_checkIndex_df160 {sh : Nat → zz_Sh} {nN : Nat} {l : Launch} {G : zz_G} (hN : nN ≤ zz_N G) : ∀ (p0 : Int32) (p1 : Int32) (m : zz_Mem), zz_Con sh l G mJ0_checkIndex_df160 1 [.int p0, .int p1] zz_vVr (zz_mC m) (f_J0_checkIndex_df160 p0 p1) m := by
  intro p0 p1 m
  refine zz_con (lv := [(0, .int p0), (1, .int p1)]) (by decide +kernel) (Nat.le_of_ble_eq_true rfl) rfl ?_
  unfold f_J0_checkIndex_df160
  refine zs_iload_n dJ0_checkIndex_df160_0 rfl 0 rfl ?_
  refine zs_iload_n dJ0_checkIndex_df160_1 rfl 1 rfl ?_
  refine zs_fmt dJ0_checkIndex_df160_2 fs_J0_1053 (fun fv hfv => ?_)
  refine zs_cS_iR (rest := []) (k_J3_checkIndex_8e157 hN hfv _ _ _) dJ0_checkIndex_df160_5 ls_J0_1059 ok_J3_checkIndex_8e157 (Nat.le_of_ble_eq_true rfl) rfl rfl (Nat.le_of_ble_eq_true rfl) (fun r1 => ?_)
  refine zs_pop dJ0_checkIndex_df160_8 rfl ?_
  exact zs_vret dJ0_checkIndex_df160_9 rfl rfl rfl
/-! J1_charAt_3b067: java/lang/StringLatin1.charAt([BI)C -/
theorem dJ1_charAt_3b067_0 : decode cJ1_charAt_3b067 0 = .ok (.iload_n 1, 1) := by decide +kernel
theorem dJ1_charAt_3b067_1 : decode cJ1_charAt_3b067 1 = .ok (.aload_n 0, 1) := by decide +kernel
theorem dJ1_charAt_3b067_2 : decode cJ1_charAt_3b067 2 = .ok (.arraylength, 1) := by decide +kernel
theorem dJ1_charAt_3b067_3 : decode cJ1_charAt_3b067 3 = .ok (.invokestatic 9, 3) := by decide +kernel
theorem dJ1_charAt_3b067_6 : decode cJ1_charAt_3b067 6 = .ok (.aload_n 0, 1) := by decide +kernel
theorem dJ1_charAt_3b067_7 : decode cJ1_charAt_3b067 7 = .ok (.iload_n 1, 1) := by decide +kernel
theorem dJ1_charAt_3b067_8 : decode cJ1_charAt_3b067 8 = .ok (.baload, 1) := by decide +kernel
theorem dJ1_charAt_3b067_9 : decode cJ1_charAt_3b067 9 = .ok (.sipush 255, 3) := by decide +kernel
theorem dJ1_charAt_3b067_12 : decode cJ1_charAt_3b067 12 = .ok (.iand, 1) := by decide +kernel
theorem dJ1_charAt_3b067_13 : decode cJ1_charAt_3b067 13 = .ok (.i2c, 1) := by decide +kernel
theorem dJ1_charAt_3b067_14 : decode cJ1_charAt_3b067 14 = .ok (.ireturn, 1) := by decide +kernel
def f_J1_charAt_3b067 (w0 : Nat) (p1 : Int32) : Option Int32 :=
  zz_bndR (f_J0_checkIndex_df160 p1 (Int32.ofNat (zz_sl w0))) fun _ =>
  zz_ix p1 (zz_sl w0) <|
  some ((((zz_sb w0 p1.toNatClampNeg) &&& (255 : Int32)).toUInt32 % 65536).toInt32)
theorem k_J1_charAt_3b067 {sh : Nat → zz_Sh} {nN : Nat} {l : Launch} {G : zz_G} (hN : nN ≤ zz_N G) {w0 : Nat} (hw0 : w0 < 30) : ∀ (p1 : Int32) (m : zz_Mem), zz_Con sh l G mJ1_charAt_3b067 2 [.ref (zz_sv G w0), .int p1] zz_vIr (zz_mC m) (f_J1_charAt_3b067 w0 p1) m := by
  intro p1 m
  refine zz_con (lv := [(0, .ref (zz_sv G w0)), (1, .int p1)]) (by decide +kernel) (Nat.le_of_ble_eq_true rfl) rfl ?_
  unfold f_J1_charAt_3b067
  refine zs_iload_n dJ1_charAt_3b067_0 rfl 1 rfl ?_
  refine zs_aload_n dJ1_charAt_3b067_1 rfl 0 rfl ?_
  refine zs_svlen dJ1_charAt_3b067_2 hw0 ?_
  refine zs_cS_vR (rest := []) (k_J0_checkIndex_df160 hN _ _ _) dJ1_charAt_3b067_3 ls_J1_9 ok_J0_checkIndex_df160 (Nat.le_of_ble_eq_true rfl) rfl rfl (Nat.le_of_ble_eq_true rfl) (fun _ => ?_)
  refine zs_aload_n dJ1_charAt_3b067_6 rfl 0 rfl ?_
  refine zs_iload_n dJ1_charAt_3b067_7 rfl 1 rfl ?_
  refine zs_svld dJ1_charAt_3b067_8 hw0 ?_
  refine zs_sipush (v := (255 : Int32)) dJ1_charAt_3b067_9 cs_255 ?_
  refine zs_iand dJ1_charAt_3b067_12 ?_
  refine zs_i2c dJ1_charAt_3b067_13 ?_
  exact zs_zret dJ1_charAt_3b067_14 rfl (pk_nc _) rfl rfl
/-! J0_charAt_5068e: java/lang/String.charAt(I)C -/
theorem dJ0_charAt_5068e_0 : decode cJ0_charAt_5068e 0 = .ok (.aload_n 0, 1) := by decide +kernel
theorem dJ0_charAt_5068e_1 : decode cJ0_charAt_5068e 1 = .ok (.invokevirtual 492, 3) := by decide +kernel
theorem dJ0_charAt_5068e_4 : decode cJ0_charAt_5068e 4 = .ok (.ifCond .eq 12, 3) := by decide +kernel
theorem dJ0_charAt_5068e_7 : decode cJ0_charAt_5068e 7 = .ok (.aload_n 0, 1) := by decide +kernel
theorem dJ0_charAt_5068e_8 : decode cJ0_charAt_5068e 8 = .ok (.getfield 9, 3) := by decide +kernel
theorem dJ0_charAt_5068e_11 : decode cJ0_charAt_5068e 11 = .ok (.iload_n 1, 1) := by decide +kernel
theorem dJ0_charAt_5068e_12 : decode cJ0_charAt_5068e 12 = .ok (.invokestatic 495, 3) := by decide +kernel
theorem dJ0_charAt_5068e_15 : decode cJ0_charAt_5068e 15 = .ok (.ireturn, 1) := by decide +kernel
theorem dJ0_charAt_5068e_16 : decode cJ0_charAt_5068e 16 = .ok (.aload_n 0, 1) := by decide +kernel
theorem dJ0_charAt_5068e_17 : decode cJ0_charAt_5068e 17 = .ok (.getfield 9, 3) := by decide +kernel
theorem dJ0_charAt_5068e_20 : decode cJ0_charAt_5068e 20 = .ok (.iload_n 1, 1) := by decide +kernel
theorem dJ0_charAt_5068e_21 : decode cJ0_charAt_5068e 21 = .ok (.invokestatic 498, 3) := by decide +kernel
theorem dJ0_charAt_5068e_24 : decode cJ0_charAt_5068e 24 = .ok (.ireturn, 1) := by decide +kernel
def f_J0_charAt_5068e (w : Nat) (p1 : Int32) : Option Int32 :=
  zz_bndR (f_J0_isLatin1_aae02 w) fun r1 =>
  if r1 = 0 then (
  none)
  else (
  zz_bndR (f_J1_charAt_3b067 w p1) fun r2 =>
  zz_cg r2 (some r2))
theorem k_J0_charAt_5068e {sh : Nat → zz_Sh} {nN : Nat} {l : Launch} {G : zz_G} (hN : nN ≤ zz_N G) {w : Nat} (hw : w < 30) : ∀ (p1 : Int32) (m : zz_Mem), zz_Con sh l G mJ0_charAt_5068e 3 [.ref (zz_sk G w), .int p1] zz_vIr (zz_mC m) (f_J0_charAt_5068e w p1) m := by
  intro p1 m
  refine zz_con (lv := [(0, .ref (zz_sk G w)), (1, .int p1)]) (by decide +kernel) (Nat.le_of_ble_eq_true rfl) rfl ?_
  unfold f_J0_charAt_5068e
  refine zs_aload_n dJ0_charAt_5068e_0 rfl 0 rfl ?_
  refine zs_cV_iR (rest := []) (k_J0_isLatin1_aae02 hN hw  _) dJ0_charAt_5068e_1 lv_J0_492 ok_J0_isLatin1_aae02 (zz_rcv_s hw) (Nat.le_of_ble_eq_true rfl) rfl rfl (Nat.le_of_ble_eq_true rfl) (fun r1 => ?_)
  refine zs_if_eq (tgt := 16) dJ0_charAt_5068e_4 (by decide) ?_ ?_
  · refine zs_aload_n dJ0_charAt_5068e_16 rfl 0 rfl ?_
    refine zs_strV dJ0_charAt_5068e_17 hw fs_J0_9 ?_
    refine zs_iload_n dJ0_charAt_5068e_20 rfl 1 rfl ?_
    exact zs_none
  · refine zs_aload_n dJ0_charAt_5068e_7 rfl 0 rfl ?_
    refine zs_strV dJ0_charAt_5068e_8 hw fs_J0_9 ?_
    refine zs_iload_n dJ0_charAt_5068e_11 rfl 1 rfl ?_
    refine zs_cS_iR (rest := []) (k_J1_charAt_3b067 hN hw _ _) dJ0_charAt_5068e_12 ls_J0_495 ok_J1_charAt_3b067 (Nat.le_of_ble_eq_true rfl) rfl rfl (Nat.le_of_ble_eq_true rfl) (fun r2 => ?_)
    exact zs_cret dJ0_charAt_5068e_15 rfl rfl rfl
