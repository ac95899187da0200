/-! ===== models and walks: 14.reader ===== -/
/-! X7_byteAt: PillarDesk$Reader.byteAt(I)I -/
theorem dX7_byteAt_0 : decode cX7_byteAt 0 = .ok (.iload_n 1, 1) := by decide +kernel
theorem dX7_byteAt_1 : decode cX7_byteAt 1 = .ok (.ifCond .lt 24, 3) := by decide +kernel
theorem dX7_byteAt_4 : decode cX7_byteAt 4 = .ok (.iload_n 1, 1) := by decide +kernel
theorem dX7_byteAt_5 : decode cX7_byteAt 5 = .ok (.aload_n 0, 1) := by decide +kernel
theorem dX7_byteAt_6 : decode cX7_byteAt 6 = .ok (.getfield 32, 3) := by decide +kernel
theorem dX7_byteAt_9 : decode cX7_byteAt 9 = .ok (.if_icmp .ge 16, 3) := by decide +kernel
theorem dX7_byteAt_12 : decode cX7_byteAt 12 = .ok (.aload_n 0, 1) := by decide +kernel
theorem dX7_byteAt_13 : decode cX7_byteAt 13 = .ok (.getfield 9, 3) := by decide +kernel
theorem dX7_byteAt_16 : decode cX7_byteAt 16 = .ok (.iload_n 1, 1) := by decide +kernel
theorem dX7_byteAt_17 : decode cX7_byteAt 17 = .ok (.baload, 1) := by decide +kernel
theorem dX7_byteAt_18 : decode cX7_byteAt 18 = .ok (.sipush 255, 3) := by decide +kernel
theorem dX7_byteAt_21 : decode cX7_byteAt 21 = .ok (.iand, 1) := by decide +kernel
theorem dX7_byteAt_22 : decode cX7_byteAt 22 = .ok (.goto 4, 3) := by decide +kernel
theorem dX7_byteAt_25 : decode cX7_byteAt 25 = .ok (.iconst 0, 1) := by decide +kernel
theorem dX7_byteAt_26 : decode cX7_byteAt 26 = .ok (.ireturn, 1) := by decide +kernel
def f_X7_byteAt (m : zz_Mem) (p1 : Int32) : Option Int32 :=
  if p1 < 0 then (
  some (0 : Int32))
  else (
  if (m.1 30 2) ≤ p1 then (
  some (0 : Int32))
  else (
  zz_rg m 30 1 1 <|
  zz_ix p1 900 <|
  some ((m.1 1 p1.toNatClampNeg) &&& (255 : Int32))))
theorem k_X7_byteAt {l : Launch} {G : zz_G} (hN : 107 ≤ zz_N G) : ∀ (p1 : Int32) (m : zz_Mem), zz_Con zz_sh l G mX7_byteAt 0 [.ref (zz_a G 30), .int p1] zz_vIr (zz_mC m) (f_X7_byteAt m p1) m := by
  intro p1 m
  refine zz_con (lv := [(0, .ref (zz_a G 30)), (1, .int p1)]) (by decide +kernel) (Nat.le_of_ble_eq_true rfl) rfl ?_
  unfold f_X7_byteAt
  refine zs_iload_n dX7_byteAt_0 rfl 1 rfl ?_
  refine zs_if_lt (tgt := 25) dX7_byteAt_1 (by decide) ?_ ?_
  · refine zs_iconst (v := (0 : Int32)) dX7_byteAt_25 ci_0 ?_
    exact zs_iret dX7_byteAt_26 rfl rfl rfl
  · refine zs_iload_n dX7_byteAt_4 rfl 1 rfl ?_
    refine zs_aload_n dX7_byteAt_5 rfl 0 rfl ?_
    refine zs_getI fl_X7_32 dX7_byteAt_6 (sh_30 hN) rfl ?_
    refine zs_icmp_ge (tgt := 25) dX7_byteAt_9 (by decide) ?_ ?_
    · refine zs_iconst (v := (0 : Int32)) dX7_byteAt_25 ci_0 ?_
      exact zs_iret dX7_byteAt_26 rfl rfl rfl
    · refine zs_aload_n dX7_byteAt_12 rfl 0 rfl ?_
      refine zs_getQg fl_X7_9 dX7_byteAt_13 (sh_30 hN) rfl ?_
      refine zs_iload_n dX7_byteAt_16 rfl 1 rfl ?_
      refine zs_baldG dX7_byteAt_17 (sh_1 hN) ?_
      refine zs_sipush (v := (255 : Int32)) dX7_byteAt_18 cs_255 ?_
      refine zs_iand dX7_byteAt_21 ?_
      refine zs_goto (tgt := 26) dX7_byteAt_22 (by decide) ?_
      exact zs_iret dX7_byteAt_26 rfl rfl rfl
/-! X7_fail: PillarDesk$Reader.fail(I)V -/
theorem dX7_fail_0 : decode cX7_fail 0 = .ok (.aload_n 0, 1) := by decide +kernel
theorem dX7_fail_1 : decode cX7_fail 1 = .ok (.getfield 38, 3) := by decide +kernel
theorem dX7_fail_4 : decode cX7_fail 4 = .ok (.ifCond .ne 16, 3) := by decide +kernel
theorem dX7_fail_7 : decode cX7_fail 7 = .ok (.aload_n 0, 1) := by decide +kernel
theorem dX7_fail_8 : decode cX7_fail 8 = .ok (.iload_n 1, 1) := by decide +kernel
theorem dX7_fail_9 : decode cX7_fail 9 = .ok (.putfield 38, 3) := by decide +kernel
theorem dX7_fail_12 : decode cX7_fail 12 = .ok (.aload_n 0, 1) := by decide +kernel
theorem dX7_fail_13 : decode cX7_fail 13 = .ok (.aload_n 0, 1) := by decide +kernel
theorem dX7_fail_14 : decode cX7_fail 14 = .ok (.getfield 58, 3) := by decide +kernel
theorem dX7_fail_17 : decode cX7_fail 17 = .ok (.putfield 15, 3) := by decide +kernel
theorem dX7_fail_20 : decode cX7_fail 20 = .ok (.aload_n 0, 1) := by decide +kernel
theorem dX7_fail_21 : decode cX7_fail 21 = .ok (.iconst 3, 1) := by decide +kernel
theorem dX7_fail_22 : decode cX7_fail 22 = .ok (.putfield 52, 3) := by decide +kernel
theorem dX7_fail_25 : decode cX7_fail 25 = .ok (.return_, 1) := by decide +kernel
def f_X7_fail_20   (m : zz_Mem) : Option zz_Mem :=
  zz_letM (zz_setI m 30 4 (3 : Int32)) fun m1 =>
  some m1
theorem t_X7_fail_20 {l : Launch} {G : zz_G} (hN : 107 ≤ zz_N G)  : ∀ (m : zz_Mem), zz_Sim zz_sh l G mX7_fail 0 zz_vV zz_mV (f_X7_fail_20 m) 20 [(0, .ref (zz_a G 30))] [] m := by
  intro m
  unfold f_X7_fail_20
  refine zs_aload_n dX7_fail_20 rfl 0 rfl ?_
  refine zs_iconst (v := (3 : Int32)) dX7_fail_21 ci_3 ?_
  refine zs_putI fl_X7_52 dX7_fail_22 (sh_30 hN) rfl ⟨rfl, rfl⟩ (fun m1 => ?_)
  exact zs_vret dX7_fail_25 rfl rfl rfl
def f_X7_fail  (p1 : Int32) (m : zz_Mem) : Option zz_Mem :=
  if (m.1 30 7) = 0 then (
  zz_letM (zz_setI m 30 7 p1) fun m1 =>
  zz_letM (zz_setI m1 30 8 (m1.1 30 5)) fun m2 =>
  f_X7_fail_20 m2)
  else (
  f_X7_fail_20 m)
theorem k_X7_fail {l : Launch} {G : zz_G} (hN : 107 ≤ zz_N G) : ∀ (p1 : Int32) (m : zz_Mem), zz_Con zz_sh l G mX7_fail 0 [.ref (zz_a G 30), .int p1] zz_vV zz_mV (f_X7_fail p1 m) m := by
  intro p1 m
  refine zz_con (lv := [(0, .ref (zz_a G 30)), (1, .int p1)]) (by decide +kernel) (Nat.le_of_ble_eq_true rfl) rfl ?_
  unfold f_X7_fail
  refine zs_aload_n dX7_fail_0 rfl 0 rfl ?_
  refine zs_getI fl_X7_38 dX7_fail_1 (sh_30 hN) rfl ?_
  refine zs_if_ne (tgt := 20) dX7_fail_4 (by decide) ?_ ?_
  · refine zs_sub [0] rfl ?_
    exact t_X7_fail_20 hN _
  · refine zs_aload_n dX7_fail_7 rfl 0 rfl ?_
    refine zs_iload_n dX7_fail_8 rfl 1 rfl ?_
    refine zs_putI fl_X7_38 dX7_fail_9 (sh_30 hN) rfl ⟨rfl, rfl⟩ (fun m1 => ?_)
    refine zs_aload_n dX7_fail_12 rfl 0 rfl ?_
    refine zs_aload_n dX7_fail_13 rfl 0 rfl ?_
    refine zs_getI fl_X7_58 dX7_fail_14 (sh_30 hN) rfl ?_
    refine zs_putI fl_X7_15 dX7_fail_17 (sh_30 hN) rfl ⟨rfl, rfl⟩ (fun m2 => ?_)
    refine zs_sub [0] rfl ?_
    exact t_X7_fail_20 hN _
/-! X7_isLetter: PillarDesk$Reader.isLetter(I)Z -/
theorem dX7_isLetter_0 : decode cX7_isLetter 0 = .ok (.iload_n 0, 1) := by decide +kernel
theorem dX7_isLetter_1 : decode cX7_isLetter 1 = .ok (.bipush 97, 2) := by decide +kernel
theorem dX7_isLetter_3 : decode cX7_isLetter 3 = .ok (.if_icmp .lt 13, 3) := by decide +kernel
theorem dX7_isLetter_6 : decode cX7_isLetter 6 = .ok (.iload_n 0, 1) := by decide +kernel
theorem dX7_isLetter_7 : decode cX7_isLetter 7 = .ok (.bipush 122, 2) := by decide +kernel
theorem dX7_isLetter_9 : decode cX7_isLetter 9 = .ok (.if_icmp .gt 7, 3) := by decide +kernel
theorem dX7_isLetter_12 : decode cX7_isLetter 12 = .ok (.iconst 1, 1) := by decide +kernel
theorem dX7_isLetter_13 : decode cX7_isLetter 13 = .ok (.goto 4, 3) := by decide +kernel
theorem dX7_isLetter_16 : decode cX7_isLetter 16 = .ok (.iconst 0, 1) := by decide +kernel
theorem dX7_isLetter_17 : decode cX7_isLetter 17 = .ok (.ireturn, 1) := by decide +kernel
def f_X7_isLetter  (p0 : Int32) : Option Int32 :=
  if p0 < (97 : Int32) then (
  some (0 : Int32))
  else (
  if (122 : Int32) < p0 then (
  some (0 : Int32))
  else (
  some (1 : Int32)))
theorem k_X7_isLetter {l : Launch} {G : zz_G} (hN : 107 ≤ zz_N G) : ∀ (p0 : Int32) (m : zz_Mem), zz_Con zz_sh l G mX7_isLetter 0 [.int p0] zz_vIr (zz_mC m) (f_X7_isLetter p0) m := by
  intro p0 m
  refine zz_con (lv := [(0, .int p0)]) (by decide +kernel) (Nat.le_of_ble_eq_true rfl) rfl ?_
  unfold f_X7_isLetter
  refine zs_iload_n dX7_isLetter_0 rfl 0 rfl ?_
  refine zs_bipush (v := (97 : Int32)) dX7_isLetter_1 cb_97 ?_
  refine zs_icmp_lt (tgt := 16) dX7_isLetter_3 (by decide) ?_ ?_
  · refine zs_iconst (v := (0 : Int32)) dX7_isLetter_16 ci_0 ?_
    exact zs_zret dX7_isLetter_17 rfl rfl rfl rfl
  · refine zs_iload_n dX7_isLetter_6 rfl 0 rfl ?_
    refine zs_bipush (v := (122 : Int32)) dX7_isLetter_7 cb_122 ?_
    refine zs_icmp_gt (tgt := 16) dX7_isLetter_9 (by decide) ?_ ?_
    · refine zs_iconst (v := (0 : Int32)) dX7_isLetter_16 ci_0 ?_
      exact zs_zret dX7_isLetter_17 rfl rfl rfl rfl
    · refine zs_iconst (v := (1 : Int32)) dX7_isLetter_12 ci_1 ?_
      refine zs_goto (tgt := 17) dX7_isLetter_13 (by decide) ?_
      exact zs_zret dX7_isLetter_17 rfl rfl rfl rfl
/-! X7_isDigit: PillarDesk$Reader.isDigit(I)Z -/
theorem dX7_isDigit_0 : decode cX7_isDigit 0 = .ok (.iload_n 0, 1) := by decide +kernel
theorem dX7_isDigit_1 : decode cX7_isDigit 1 = .ok (.bipush 48, 2) := by decide +kernel
theorem dX7_isDigit_3 : decode cX7_isDigit 3 = .ok (.if_icmp .lt 13, 3) := by decide +kernel
theorem dX7_isDigit_6 : decode cX7_isDigit 6 = .ok (.iload_n 0, 1) := by decide +kernel
theorem dX7_isDigit_7 : decode cX7_isDigit 7 = .ok (.bipush 57, 2) := by decide +kernel
theorem dX7_isDigit_9 : decode cX7_isDigit 9 = .ok (.if_icmp .gt 7, 3) := by decide +kernel
theorem dX7_isDigit_12 : decode cX7_isDigit 12 = .ok (.iconst 1, 1) := by decide +kernel
theorem dX7_isDigit_13 : decode cX7_isDigit 13 = .ok (.goto 4, 3) := by decide +kernel
theorem dX7_isDigit_16 : decode cX7_isDigit 16 = .ok (.iconst 0, 1) := by decide +kernel
theorem dX7_isDigit_17 : decode cX7_isDigit 17 = .ok (.ireturn, 1) := by decide +kernel
def f_X7_isDigit  (p0 : Int32) : Option Int32 :=
  if p0 < (48 : Int32) then (
  some (0 : Int32))
  else (
  if (57 : Int32) < p0 then (
  some (0 : Int32))
  else (
  some (1 : Int32)))
theorem k_X7_isDigit {l : Launch} {G : zz_G} (hN : 107 ≤ zz_N G) : ∀ (p0 : Int32) (m : zz_Mem), zz_Con zz_sh l G mX7_isDigit 0 [.int p0] zz_vIr (zz_mC m) (f_X7_isDigit p0) m := by
  intro p0 m
  refine zz_con (lv := [(0, .int p0)]) (by decide +kernel) (Nat.le_of_ble_eq_true rfl) rfl ?_
  unfold f_X7_isDigit
  refine zs_iload_n dX7_isDigit_0 rfl 0 rfl ?_
  refine zs_bipush (v := (48 : Int32)) dX7_isDigit_1 cb_48 ?_
  refine zs_icmp_lt (tgt := 16) dX7_isDigit_3 (by decide) ?_ ?_
  · refine zs_iconst (v := (0 : Int32)) dX7_isDigit_16 ci_0 ?_
    exact zs_zret dX7_isDigit_17 rfl rfl rfl rfl
  · refine zs_iload_n dX7_isDigit_6 rfl 0 rfl ?_
    refine zs_bipush (v := (57 : Int32)) dX7_isDigit_7 cb_57 ?_
    refine zs_icmp_gt (tgt := 16) dX7_isDigit_9 (by decide) ?_ ?_
    · refine zs_iconst (v := (0 : Int32)) dX7_isDigit_16 ci_0 ?_
      exact zs_zret dX7_isDigit_17 rfl rfl rfl rfl
    · refine zs_iconst (v := (1 : Int32)) dX7_isDigit_12 ci_1 ?_
      refine zs_goto (tgt := 17) dX7_isDigit_13 (by decide) ?_
      exact zs_zret dX7_isDigit_17 rfl rfl rfl rfl
/-! X7_nextWord: PillarDesk$Reader.nextWord()V -/
theorem dX7_nextWord_0 : decode cX7_nextWord 0 = .ok (.aload_n 0, 1) := by decide +kernel
theorem dX7_nextWord_1 : decode cX7_nextWord 1 = .ok (.iconst 1, 1) := by decide +kernel
theorem dX7_nextWord_2 : decode cX7_nextWord 2 = .ok (.putfield 52, 3) := by decide +kernel
theorem dX7_nextWord_5 : decode cX7_nextWord 5 = .ok (.aload_n 0, 1) := by decide +kernel
theorem dX7_nextWord_6 : decode cX7_nextWord 6 = .ok (.getfield 35, 3) := by decide +kernel
theorem dX7_nextWord_9 : decode cX7_nextWord 9 = .ok (.aload_n 0, 1) := by decide +kernel
theorem dX7_nextWord_10 : decode cX7_nextWord 10 = .ok (.getfield 32, 3) := by decide +kernel
theorem dX7_nextWord_13 : decode cX7_nextWord 13 = .ok (.if_icmp .ge 30, 3) := by decide +kernel
theorem dX7_nextWord_16 : decode cX7_nextWord 16 = .ok (.aload_n 0, 1) := by decide +kernel
theorem dX7_nextWord_17 : decode cX7_nextWord 17 = .ok (.aload_n 0, 1) := by decide +kernel
theorem dX7_nextWord_18 : decode cX7_nextWord 18 = .ok (.getfield 35, 3) := by decide +kernel
theorem dX7_nextWord_21 : decode cX7_nextWord 21 = .ok (.invokevirtual 61, 3) := by decide +kernel
theorem dX7_nextWord_24 : decode cX7_nextWord 24 = .ok (.invokestatic 65, 3) := by decide +kernel
theorem dX7_nextWord_27 : decode cX7_nextWord 27 = .ok (.ifCond .eq 16, 3) := by decide +kernel
theorem dX7_nextWord_30 : decode cX7_nextWord 30 = .ok (.aload_n 0, 1) := by decide +kernel
theorem dX7_nextWord_31 : decode cX7_nextWord 31 = .ok (.dup, 1) := by decide +kernel
theorem dX7_nextWord_32 : decode cX7_nextWord 32 = .ok (.getfield 35, 3) := by decide +kernel
theorem dX7_nextWord_35 : decode cX7_nextWord 35 = .ok (.iconst 1, 1) := by decide +kernel
theorem dX7_nextWord_36 : decode cX7_nextWord 36 = .ok (.iadd, 1) := by decide +kernel
theorem dX7_nextWord_37 : decode cX7_nextWord 37 = .ok (.putfield 35, 3) := by decide +kernel
theorem dX7_nextWord_40 : decode cX7_nextWord 40 = .ok (.goto (-35), 3) := by decide +kernel
theorem dX7_nextWord_43 : decode cX7_nextWord 43 = .ok (.return_, 1) := by decide +kernel
def f_X7_nextWord_5   : Nat → zz_Mem → Option zz_Mem
  | 0, _ => none
  | n + 1, m =>
  if (m.1 30 2) ≤ (m.1 30 3) then (
  some m)
  else (
  zz_bndR (f_X7_byteAt m (m.1 30 3)) fun r1 =>
  zz_bndR (f_X7_isLetter r1) fun r2 =>
  if r2 = 0 then (
  some m)
  else (
  zz_letM (zz_setI m 30 3 ((m.1 30 3) + (1 : Int32))) fun m3 =>
  f_X7_nextWord_5 n m3))
theorem t_X7_nextWord_5 {l : Launch} {G : zz_G} (hN : 107 ≤ zz_N G)  : ∀ (n : Nat) (m : zz_Mem), zz_Sim zz_sh l G mX7_nextWord 1 zz_vV zz_mV (f_X7_nextWord_5 n m) 5 [(0, .ref (zz_a G 30))] [] m := by
  intro n
  induction n with
  | zero => intro _; exact zs_none
  | succ n ih =>
    intro m
    rw [f_X7_nextWord_5]
    refine zs_aload_n dX7_nextWord_5 rfl 0 rfl ?_
    refine zs_getI fl_X7_35 dX7_nextWord_6 (sh_30 hN) rfl ?_
    refine zs_aload_n dX7_nextWord_9 rfl 0 rfl ?_
    refine zs_getI fl_X7_32 dX7_nextWord_10 (sh_30 hN) rfl ?_
    refine zs_icmp_ge (tgt := 43) dX7_nextWord_13 (by decide) ?_ ?_
    · exact zs_vret dX7_nextWord_43 rfl rfl rfl
    · refine zs_aload_n dX7_nextWord_16 rfl 0 rfl ?_
      refine zs_aload_n dX7_nextWord_17 rfl 0 rfl ?_
      refine zs_getI fl_X7_35 dX7_nextWord_18 (sh_30 hN) rfl ?_
      refine zs_cV_iR (rest := []) (k_X7_byteAt hN _ _) dX7_nextWord_21 lv_X7_61 ok_X7_byteAt (zz_rcv_o (sh_30 hN) rfl) (Nat.le_of_ble_eq_true rfl) rfl rfl (Nat.le_of_ble_eq_true rfl) (fun r1 => ?_)
      refine zs_cS_iR (rest := []) (k_X7_isLetter hN _ _) dX7_nextWord_24 ls_X7_65 ok_X7_isLetter (Nat.le_of_ble_eq_true rfl) rfl rfl (Nat.le_of_ble_eq_true rfl) (fun r2 => ?_)
      refine zs_if_eq (tgt := 43) dX7_nextWord_27 (by decide) ?_ ?_
      · exact zs_vret dX7_nextWord_43 rfl rfl rfl
      · refine zs_aload_n dX7_nextWord_30 rfl 0 rfl ?_
        refine zs_dup dX7_nextWord_31 rfl ?_
        refine zs_getI fl_X7_35 dX7_nextWord_32 (sh_30 hN) rfl ?_
        refine zs_iconst (v := (1 : Int32)) dX7_nextWord_35 ci_1 ?_
        refine zs_iadd dX7_nextWord_36 ?_
        refine zs_putI fl_X7_35 dX7_nextWord_37 (sh_30 hN) rfl ⟨rfl, rfl⟩ (fun m3 => ?_)
        refine zs_goto (tgt := 5) dX7_nextWord_40 (by decide) ?_
        exact ih _
def f_X7_nextWord   (m : zz_Mem) : Option zz_Mem :=
  zz_letM (zz_setI m 30 4 (1 : Int32)) fun m1 =>
  f_X7_nextWord_5 zz_fuel m1
theorem k_X7_nextWord {l : Launch} {G : zz_G} (hN : 107 ≤ zz_N G) : ∀ (m : zz_Mem), zz_Con zz_sh l G mX7_nextWord 1 [.ref (zz_a G 30)] zz_vV zz_mV (f_X7_nextWord m) m := by
  intro m
  refine zz_con (lv := [(0, .ref (zz_a G 30))]) (by decide +kernel) (Nat.le_of_ble_eq_true rfl) rfl ?_
  unfold f_X7_nextWord
  refine zs_aload_n dX7_nextWord_0 rfl 0 rfl ?_
  refine zs_iconst (v := (1 : Int32)) dX7_nextWord_1 ci_1 ?_
  refine zs_putI fl_X7_52 dX7_nextWord_2 (sh_30 hN) rfl ⟨rfl, rfl⟩ (fun m1 => ?_)
  exact t_X7_nextWord_5 hN zz_fuel _
/-! X7_nextNumber: PillarDesk$Reader.nextNumber()V -/
theorem dX7_nextNumber_0 : decode cX7_nextNumber 0 = .ok (.aload_n 0, 1) := by decide +kernel
theorem dX7_nextNumber_1 : decode cX7_nextNumber 1 = .ok (.iconst 2, 1) := by decide +kernel
theorem dX7_nextNumber_2 : decode cX7_nextNumber 2 = .ok (.putfield 52, 3) := by decide +kernel
theorem dX7_nextNumber_5 : decode cX7_nextNumber 5 = .ok (.aload_n 0, 1) := by decide +kernel
theorem dX7_nextNumber_6 : decode cX7_nextNumber 6 = .ok (.iconst 0, 1) := by decide +kernel
theorem dX7_nextNumber_7 : decode cX7_nextNumber 7 = .ok (.putfield 89, 3) := by decide +kernel
theorem dX7_nextNumber_10 : decode cX7_nextNumber 10 = .ok (.aload_n 0, 1) := by decide +kernel
theorem dX7_nextNumber_11 : decode cX7_nextNumber 11 = .ok (.getfield 35, 3) := by decide +kernel
theorem dX7_nextNumber_14 : decode cX7_nextNumber 14 = .ok (.aload_n 0, 1) := by decide +kernel
theorem dX7_nextNumber_15 : decode cX7_nextNumber 15 = .ok (.getfield 32, 3) := by decide +kernel
theorem dX7_nextNumber_18 : decode cX7_nextNumber 18 = .ok (.if_icmp .ge 72, 3) := by decide +kernel
theorem dX7_nextNumber_21 : decode cX7_nextNumber 21 = .ok (.aload_n 0, 1) := by decide +kernel
theorem dX7_nextNumber_22 : decode cX7_nextNumber 22 = .ok (.aload_n 0, 1) := by decide +kernel
theorem dX7_nextNumber_23 : decode cX7_nextNumber 23 = .ok (.getfield 35, 3) := by decide +kernel
theorem dX7_nextNumber_26 : decode cX7_nextNumber 26 = .ok (.invokevirtual 61, 3) := by decide +kernel
theorem dX7_nextNumber_29 : decode cX7_nextNumber 29 = .ok (.invokestatic 72, 3) := by decide +kernel
theorem dX7_nextNumber_32 : decode cX7_nextNumber 32 = .ok (.ifCond .eq 58, 3) := by decide +kernel
theorem dX7_nextNumber_35 : decode cX7_nextNumber 35 = .ok (.aload_n 0, 1) := by decide +kernel
theorem dX7_nextNumber_36 : decode cX7_nextNumber 36 = .ok (.getfield 35, 3) := by decide +kernel
theorem dX7_nextNumber_39 : decode cX7_nextNumber 39 = .ok (.aload_n 0, 1) := by decide +kernel
theorem dX7_nextNumber_40 : decode cX7_nextNumber 40 = .ok (.getfield 58, 3) := by decide +kernel
theorem dX7_nextNumber_43 : decode cX7_nextNumber 43 = .ok (.isub, 1) := by decide +kernel
theorem dX7_nextNumber_44 : decode cX7_nextNumber 44 = .ok (.iconst 3, 1) := by decide +kernel
theorem dX7_nextNumber_45 : decode cX7_nextNumber 45 = .ok (.if_icmp .lt 9, 3) := by decide +kernel
theorem dX7_nextNumber_48 : decode cX7_nextNumber 48 = .ok (.aload_n 0, 1) := by decide +kernel
theorem dX7_nextNumber_49 : decode cX7_nextNumber 49 = .ok (.iconst 1, 1) := by decide +kernel
theorem dX7_nextNumber_50 : decode cX7_nextNumber 50 = .ok (.invokevirtual 85, 3) := by decide +kernel
theorem dX7_nextNumber_53 : decode cX7_nextNumber 53 = .ok (.return_, 1) := by decide +kernel
theorem dX7_nextNumber_54 : decode cX7_nextNumber 54 = .ok (.aload_n 0, 1) := by decide +kernel
theorem dX7_nextNumber_55 : decode cX7_nextNumber 55 = .ok (.aload_n 0, 1) := by decide +kernel
theorem dX7_nextNumber_56 : decode cX7_nextNumber 56 = .ok (.getfield 89, 3) := by decide +kernel
theorem dX7_nextNumber_59 : decode cX7_nextNumber 59 = .ok (.bipush 10, 2) := by decide +kernel
theorem dX7_nextNumber_61 : decode cX7_nextNumber 61 = .ok (.imul, 1) := by decide +kernel
theorem dX7_nextNumber_62 : decode cX7_nextNumber 62 = .ok (.aload_n 0, 1) := by decide +kernel
theorem dX7_nextNumber_63 : decode cX7_nextNumber 63 = .ok (.aload_n 0, 1) := by decide +kernel
theorem dX7_nextNumber_64 : decode cX7_nextNumber 64 = .ok (.getfield 35, 3) := by decide +kernel
theorem dX7_nextNumber_67 : decode cX7_nextNumber 67 = .ok (.invokevirtual 61, 3) := by decide +kernel
theorem dX7_nextNumber_70 : decode cX7_nextNumber 70 = .ok (.iadd, 1) := by decide +kernel
theorem dX7_nextNumber_71 : decode cX7_nextNumber 71 = .ok (.bipush 48, 2) := by decide +kernel
theorem dX7_nextNumber_73 : decode cX7_nextNumber 73 = .ok (.isub, 1) := by decide +kernel
theorem dX7_nextNumber_74 : decode cX7_nextNumber 74 = .ok (.putfield 89, 3) := by decide +kernel
theorem dX7_nextNumber_77 : decode cX7_nextNumber 77 = .ok (.aload_n 0, 1) := by decide +kernel
theorem dX7_nextNumber_78 : decode cX7_nextNumber 78 = .ok (.dup, 1) := by decide +kernel
theorem dX7_nextNumber_79 : decode cX7_nextNumber 79 = .ok (.getfield 35, 3) := by decide +kernel
theorem dX7_nextNumber_82 : decode cX7_nextNumber 82 = .ok (.iconst 1, 1) := by decide +kernel
theorem dX7_nextNumber_83 : decode cX7_nextNumber 83 = .ok (.iadd, 1) := by decide +kernel
theorem dX7_nextNumber_84 : decode cX7_nextNumber 84 = .ok (.putfield 35, 3) := by decide +kernel
theorem dX7_nextNumber_87 : decode cX7_nextNumber 87 = .ok (.goto (-77), 3) := by decide +kernel
theorem dX7_nextNumber_90 : decode cX7_nextNumber 90 = .ok (.return_, 1) := by decide +kernel
def f_X7_nextNumber_48   (m : zz_Mem) : Option zz_Mem :=
  zz_bndR (f_X7_fail (1 : Int32) m) fun m1 =>
  some m1
theorem t_X7_nextNumber_48 {l : Launch} {G : zz_G} (hN : 107 ≤ zz_N G)  : ∀ (m : zz_Mem), zz_Sim zz_sh l G mX7_nextNumber 1 zz_vV zz_mV (f_X7_nextNumber_48 m) 48 [(0, .ref (zz_a G 30))] [] m := by
  intro m
  unfold f_X7_nextNumber_48
  refine zs_aload_n dX7_nextNumber_48 rfl 0 rfl ?_
  refine zs_iconst (v := (1 : Int32)) dX7_nextNumber_49 ci_1 ?_
  refine zs_cV_vW (rest := []) (k_X7_fail hN _ _) dX7_nextNumber_50 lv_X7_85 ok_X7_fail (zz_rcv_o (sh_30 hN) rfl) (Nat.le_of_ble_eq_true rfl) rfl rfl (Nat.le_of_ble_eq_true rfl) (fun m1 => ?_)
  exact zs_vret dX7_nextNumber_53 rfl rfl rfl
def f_X7_nextNumber_10   : Nat → zz_Mem → Option zz_Mem
  | 0, _ => none
  | n + 1, m =>
  if (m.1 30 2) ≤ (m.1 30 3) then (
  some m)
  else (
  zz_bndR (f_X7_byteAt m (m.1 30 3)) fun r1 =>
  zz_bndR (f_X7_isDigit r1) fun r2 =>
  if r2 = 0 then (
  some m)
  else (
  if ((m.1 30 3) - (m.1 30 5)) < (3 : Int32) then (
  zz_bndR (f_X7_byteAt m (m.1 30 3)) fun r3 =>
  zz_letM (zz_setI m 30 6 ((((m.1 30 6) * (10 : Int32)) + r3) - (48 : Int32))) fun m4 =>
  zz_letM (zz_setI m4 30 3 ((m4.1 30 3) + (1 : Int32))) fun m5 =>
  f_X7_nextNumber_10 n m5)
  else (
  f_X7_nextNumber_48 m)))
theorem t_X7_nextNumber_10 {l : Launch} {G : zz_G} (hN : 107 ≤ zz_N G)  : ∀ (n : Nat) (m : zz_Mem), zz_Sim zz_sh l G mX7_nextNumber 1 zz_vV zz_mV (f_X7_nextNumber_10 n m) 10 [(0, .ref (zz_a G 30))] [] m := by
  intro n
  induction n with
  | zero => intro _; exact zs_none
  | succ n ih =>
    intro m
    rw [f_X7_nextNumber_10]
    refine zs_aload_n dX7_nextNumber_10 rfl 0 rfl ?_
    refine zs_getI fl_X7_35 dX7_nextNumber_11 (sh_30 hN) rfl ?_
    refine zs_aload_n dX7_nextNumber_14 rfl 0 rfl ?_
    refine zs_getI fl_X7_32 dX7_nextNumber_15 (sh_30 hN) rfl ?_
    refine zs_icmp_ge (tgt := 90) dX7_nextNumber_18 (by decide) ?_ ?_
    · exact zs_vret dX7_nextNumber_90 rfl rfl rfl
    · refine zs_aload_n dX7_nextNumber_21 rfl 0 rfl ?_
      refine zs_aload_n dX7_nextNumber_22 rfl 0 rfl ?_
      refine zs_getI fl_X7_35 dX7_nextNumber_23 (sh_30 hN) rfl ?_
      refine zs_cV_iR (rest := []) (k_X7_byteAt hN _ _) dX7_nextNumber_26 lv_X7_61 ok_X7_byteAt (zz_rcv_o (sh_30 hN) rfl) (Nat.le_of_ble_eq_true rfl) rfl rfl (Nat.le_of_ble_eq_true rfl) (fun r1 => ?_)
      refine zs_cS_iR (rest := []) (k_X7_isDigit hN _ _) dX7_nextNumber_29 ls_X7_72 ok_X7_isDigit (Nat.le_of_ble_eq_true rfl) rfl rfl (Nat.le_of_ble_eq_true rfl) (fun r2 => ?_)
      refine zs_if_eq (tgt := 90) dX7_nextNumber_32 (by decide) ?_ ?_
      · exact zs_vret dX7_nextNumber_90 rfl rfl rfl
      · refine zs_aload_n dX7_nextNumber_35 rfl 0 rfl ?_
        refine zs_getI fl_X7_35 dX7_nextNumber_36 (sh_30 hN) rfl ?_
        refine zs_aload_n dX7_nextNumber_39 rfl 0 rfl ?_
        refine zs_getI fl_X7_58 dX7_nextNumber_40 (sh_30 hN) rfl ?_
        refine zs_isub dX7_nextNumber_43 ?_
        refine zs_iconst (v := (3 : Int32)) dX7_nextNumber_44 ci_3 ?_
        refine zs_icmp_lt (tgt := 54) dX7_nextNumber_45 (by decide) ?_ ?_
        · refine zs_aload_n dX7_nextNumber_54 rfl 0 rfl ?_
          refine zs_aload_n dX7_nextNumber_55 rfl 0 rfl ?_
          refine zs_getI fl_X7_89 dX7_nextNumber_56 (sh_30 hN) rfl ?_
          refine zs_bipush (v := (10 : Int32)) dX7_nextNumber_59 cb_10 ?_
          refine zs_imul dX7_nextNumber_61 ?_
          refine zs_aload_n dX7_nextNumber_62 rfl 0 rfl ?_
          refine zs_aload_n dX7_nextNumber_63 rfl 0 rfl ?_
          refine zs_getI fl_X7_35 dX7_nextNumber_64 (sh_30 hN) rfl ?_
          refine zs_cV_iR (rest := [.int ((m.1 30 6) * (10 : Int32)), .ref (zz_a G 30)]) (k_X7_byteAt hN _ _) dX7_nextNumber_67 lv_X7_61 ok_X7_byteAt (zz_rcv_o (sh_30 hN) rfl) (Nat.le_of_ble_eq_true rfl) rfl rfl (Nat.le_of_ble_eq_true rfl) (fun r3 => ?_)
          refine zs_iadd dX7_nextNumber_70 ?_
          refine zs_bipush (v := (48 : Int32)) dX7_nextNumber_71 cb_48 ?_
          refine zs_isub dX7_nextNumber_73 ?_
          refine zs_putI fl_X7_89 dX7_nextNumber_74 (sh_30 hN) rfl ⟨rfl, rfl⟩ (fun m4 => ?_)
          refine zs_aload_n dX7_nextNumber_77 rfl 0 rfl ?_
          refine zs_dup dX7_nextNumber_78 rfl ?_
          refine zs_getI fl_X7_35 dX7_nextNumber_79 (sh_30 hN) rfl ?_
          refine zs_iconst (v := (1 : Int32)) dX7_nextNumber_82 ci_1 ?_
          refine zs_iadd dX7_nextNumber_83 ?_
          refine zs_putI fl_X7_35 dX7_nextNumber_84 (sh_30 hN) rfl ⟨rfl, rfl⟩ (fun m5 => ?_)
          refine zs_goto (tgt := 10) dX7_nextNumber_87 (by decide) ?_
          exact ih _
        · exact t_X7_nextNumber_48 hN _
def f_X7_nextNumber   (m : zz_Mem) : Option zz_Mem :=
  zz_letM (zz_setI m 30 4 (2 : Int32)) fun m1 =>
  zz_letM (zz_setI m1 30 6 (0 : Int32)) fun m2 =>
  f_X7_nextNumber_10 zz_fuel m2
theorem k_X7_nextNumber {l : Launch} {G : zz_G} (hN : 107 ≤ zz_N G) : ∀ (m : zz_Mem), zz_Con zz_sh l G mX7_nextNumber 1 [.ref (zz_a G 30)] zz_vV zz_mV (f_X7_nextNumber m) m := by
  intro m
  refine zz_con (lv := [(0, .ref (zz_a G 30))]) (by decide +kernel) (Nat.le_of_ble_eq_true rfl) rfl ?_
  unfold f_X7_nextNumber
  refine zs_aload_n dX7_nextNumber_0 rfl 0 rfl ?_
  refine zs_iconst (v := (2 : Int32)) dX7_nextNumber_1 ci_2 ?_
  refine zs_putI fl_X7_52 dX7_nextNumber_2 (sh_30 hN) rfl ⟨rfl, rfl⟩ (fun m1 => ?_)
  refine zs_aload_n dX7_nextNumber_5 rfl 0 rfl ?_
  refine zs_iconst (v := (0 : Int32)) dX7_nextNumber_6 ci_0 ?_
  refine zs_putI fl_X7_89 dX7_nextNumber_7 (sh_30 hN) rfl ⟨rfl, rfl⟩ (fun m2 => ?_)
  exact t_X7_nextNumber_10 hN zz_fuel _
/-! X7_next: PillarDesk$Reader.next()V -/
theorem dX7_next_0 : decode cX7_next 0 = .ok (.aload_n 0, 1) := by decide +kernel
theorem dX7_next_1 : decode cX7_next 1 = .ok (.getfield 35, 3) := by decide +kernel
theorem dX7_next_4 : decode cX7_next 4 = .ok (.aload_n 0, 1) := by decide +kernel
theorem dX7_next_5 : decode cX7_next 5 = .ok (.getfield 32, 3) := by decide +kernel
theorem dX7_next_8 : decode cX7_next 8 = .ok (.if_icmp .ge 42, 3) := by decide +kernel
theorem dX7_next_11 : decode cX7_next 11 = .ok (.aload_n 0, 1) := by decide +kernel
theorem dX7_next_12 : decode cX7_next 12 = .ok (.aload_n 0, 1) := by decide +kernel
theorem dX7_next_13 : decode cX7_next 13 = .ok (.getfield 35, 3) := by decide +kernel
theorem dX7_next_16 : decode cX7_next 16 = .ok (.invokevirtual 61, 3) := by decide +kernel
theorem dX7_next_19 : decode cX7_next 19 = .ok (.bipush 32, 2) := by decide +kernel
theorem dX7_next_21 : decode cX7_next 21 = .ok (.if_icmp .eq 16, 3) := by decide +kernel
theorem dX7_next_24 : decode cX7_next 24 = .ok (.aload_n 0, 1) := by decide +kernel
theorem dX7_next_25 : decode cX7_next 25 = .ok (.aload_n 0, 1) := by decide +kernel
theorem dX7_next_26 : decode cX7_next 26 = .ok (.getfield 35, 3) := by decide +kernel
theorem dX7_next_29 : decode cX7_next 29 = .ok (.invokevirtual 61, 3) := by decide +kernel
theorem dX7_next_32 : decode cX7_next 32 = .ok (.bipush 10, 2) := by decide +kernel
theorem dX7_next_34 : decode cX7_next 34 = .ok (.if_icmp .ne 16, 3) := by decide +kernel
theorem dX7_next_37 : decode cX7_next 37 = .ok (.aload_n 0, 1) := by decide +kernel
theorem dX7_next_38 : decode cX7_next 38 = .ok (.dup, 1) := by decide +kernel
theorem dX7_next_39 : decode cX7_next 39 = .ok (.getfield 35, 3) := by decide +kernel
theorem dX7_next_42 : decode cX7_next 42 = .ok (.iconst 1, 1) := by decide +kernel
theorem dX7_next_43 : decode cX7_next 43 = .ok (.iadd, 1) := by decide +kernel
theorem dX7_next_44 : decode cX7_next 44 = .ok (.putfield 35, 3) := by decide +kernel
theorem dX7_next_47 : decode cX7_next 47 = .ok (.goto (-47), 3) := by decide +kernel
theorem dX7_next_50 : decode cX7_next 50 = .ok (.aload_n 0, 1) := by decide +kernel
theorem dX7_next_51 : decode cX7_next 51 = .ok (.aload_n 0, 1) := by decide +kernel
theorem dX7_next_52 : decode cX7_next 52 = .ok (.getfield 35, 3) := by decide +kernel
theorem dX7_next_55 : decode cX7_next 55 = .ok (.putfield 58, 3) := by decide +kernel
theorem dX7_next_58 : decode cX7_next 58 = .ok (.aload_n 0, 1) := by decide +kernel
theorem dX7_next_59 : decode cX7_next 59 = .ok (.aload_n 0, 1) := by decide +kernel
theorem dX7_next_60 : decode cX7_next 60 = .ok (.getfield 35, 3) := by decide +kernel
theorem dX7_next_63 : decode cX7_next 63 = .ok (.invokevirtual 61, 3) := by decide +kernel
theorem dX7_next_66 : decode cX7_next 66 = .ok (.istore_n 1, 1) := by decide +kernel
theorem dX7_next_67 : decode cX7_next 67 = .ok (.aload_n 0, 1) := by decide +kernel
theorem dX7_next_68 : decode cX7_next 68 = .ok (.getfield 38, 3) := by decide +kernel
theorem dX7_next_71 : decode cX7_next 71 = .ok (.ifCond .eq 11, 3) := by decide +kernel
theorem dX7_next_74 : decode cX7_next 74 = .ok (.aload_n 0, 1) := by decide +kernel
theorem dX7_next_75 : decode cX7_next 75 = .ok (.iconst 3, 1) := by decide +kernel
theorem dX7_next_76 : decode cX7_next 76 = .ok (.putfield 52, 3) := by decide +kernel
theorem dX7_next_79 : decode cX7_next 79 = .ok (.goto 90, 3) := by decide +kernel
theorem dX7_next_82 : decode cX7_next 82 = .ok (.aload_n 0, 1) := by decide +kernel
theorem dX7_next_83 : decode cX7_next 83 = .ok (.getfield 35, 3) := by decide +kernel
theorem dX7_next_86 : decode cX7_next 86 = .ok (.aload_n 0, 1) := by decide +kernel
theorem dX7_next_87 : decode cX7_next 87 = .ok (.getfield 32, 3) := by decide +kernel
theorem dX7_next_90 : decode cX7_next 90 = .ok (.if_icmp .lt 11, 3) := by decide +kernel
theorem dX7_next_93 : decode cX7_next 93 = .ok (.aload_n 0, 1) := by decide +kernel
theorem dX7_next_94 : decode cX7_next 94 = .ok (.iconst 0, 1) := by decide +kernel
theorem dX7_next_95 : decode cX7_next 95 = .ok (.putfield 52, 3) := by decide +kernel
theorem dX7_next_98 : decode cX7_next 98 = .ok (.goto 71, 3) := by decide +kernel
theorem dX7_next_101 : decode cX7_next 101 = .ok (.iload_n 1, 1) := by decide +kernel
theorem dX7_next_102 : decode cX7_next 102 = .ok (.invokestatic 65, 3) := by decide +kernel
theorem dX7_next_105 : decode cX7_next 105 = .ok (.ifCond .eq 10, 3) := by decide +kernel
theorem dX7_next_108 : decode cX7_next 108 = .ok (.aload_n 0, 1) := by decide +kernel
theorem dX7_next_109 : decode cX7_next 109 = .ok (.invokevirtual 69, 3) := by decide +kernel
theorem dX7_next_112 : decode cX7_next 112 = .ok (.goto 57, 3) := by decide +kernel
theorem dX7_next_115 : decode cX7_next 115 = .ok (.iload_n 1, 1) := by decide +kernel
theorem dX7_next_116 : decode cX7_next 116 = .ok (.invokestatic 72, 3) := by decide +kernel
theorem dX7_next_119 : decode cX7_next 119 = .ok (.ifCond .eq 10, 3) := by decide +kernel
theorem dX7_next_122 : decode cX7_next 122 = .ok (.aload_n 0, 1) := by decide +kernel
theorem dX7_next_123 : decode cX7_next 123 = .ok (.invokevirtual 75, 3) := by decide +kernel
theorem dX7_next_126 : decode cX7_next 126 = .ok (.goto 43, 3) := by decide +kernel
theorem dX7_next_129 : decode cX7_next 129 = .ok (.iload_n 1, 1) := by decide +kernel
theorem dX7_next_130 : decode cX7_next 130 = .ok (.sipush 128, 3) := by decide +kernel
theorem dX7_next_133 : decode cX7_next 133 = .ok (.if_icmp .ge 31, 3) := by decide +kernel
theorem dX7_next_136 : decode cX7_next 136 = .ok (.ldc 78, 2) := by decide +kernel
theorem dX7_next_138 : decode cX7_next 138 = .ok (.iload_n 1, 1) := by decide +kernel
theorem dX7_next_139 : decode cX7_next 139 = .ok (.i2c, 1) := by decide +kernel
theorem dX7_next_140 : decode cX7_next 140 = .ok (.invokevirtual 80, 3) := by decide +kernel
theorem dX7_next_143 : decode cX7_next 143 = .ok (.ifCond .lt 21, 3) := by decide +kernel
theorem dX7_next_146 : decode cX7_next 146 = .ok (.aload_n 0, 1) := by decide +kernel
theorem dX7_next_147 : decode cX7_next 147 = .ok (.iload_n 1, 1) := by decide +kernel
theorem dX7_next_148 : decode cX7_next 148 = .ok (.putfield 52, 3) := by decide +kernel
theorem dX7_next_151 : decode cX7_next 151 = .ok (.aload_n 0, 1) := by decide +kernel
theorem dX7_next_152 : decode cX7_next 152 = .ok (.dup, 1) := by decide +kernel
theorem dX7_next_153 : decode cX7_next 153 = .ok (.getfield 35, 3) := by decide +kernel
theorem dX7_next_156 : decode cX7_next 156 = .ok (.iconst 1, 1) := by decide +kernel
theorem dX7_next_157 : decode cX7_next 157 = .ok (.iadd, 1) := by decide +kernel
theorem dX7_next_158 : decode cX7_next 158 = .ok (.putfield 35, 3) := by decide +kernel
theorem dX7_next_161 : decode cX7_next 161 = .ok (.goto 8, 3) := by decide +kernel
theorem dX7_next_164 : decode cX7_next 164 = .ok (.aload_n 0, 1) := by decide +kernel
theorem dX7_next_165 : decode cX7_next 165 = .ok (.iconst 1, 1) := by decide +kernel
theorem dX7_next_166 : decode cX7_next 166 = .ok (.invokevirtual 85, 3) := by decide +kernel
theorem dX7_next_169 : decode cX7_next 169 = .ok (.return_, 1) := by decide +kernel
def f_X7_next_164   (m : zz_Mem) : Option zz_Mem :=
  zz_bndR (f_X7_fail (1 : Int32) m) fun m1 =>
  some m1
theorem t_X7_next_164 {l : Launch} {G : zz_G} (hN : 107 ≤ zz_N G)  : ∀ (m : zz_Mem), zz_Sim zz_sh l G mX7_next 4 zz_vV zz_mV (f_X7_next_164 m) 164 [(0, .ref (zz_a G 30))] [] m := by
  intro m
  unfold f_X7_next_164
  refine zs_aload_n dX7_next_164 rfl 0 rfl ?_
  refine zs_iconst (v := (1 : Int32)) dX7_next_165 ci_1 ?_
  refine zs_cV_vW (rest := []) (k_X7_fail hN _ _) dX7_next_166 lv_X7_85 ok_X7_fail (zz_rcv_o (sh_30 hN) rfl) (Nat.le_of_ble_eq_true rfl) rfl rfl (Nat.le_of_ble_eq_true rfl) (fun m1 => ?_)
  exact zs_vret dX7_next_169 rfl rfl rfl
def f_X7_next_50   (m : zz_Mem) : Option zz_Mem :=
  zz_letM (zz_setI m 30 5 (m.1 30 3)) fun m1 =>
  zz_bndR (f_X7_byteAt m1 (m1.1 30 3)) fun r2 =>
  if (m1.1 30 7) = 0 then (
  if (m1.1 30 3) < (m1.1 30 2) then (
  zz_bndR (f_X7_isLetter r2) fun r3 =>
  if r3 = 0 then (
  zz_bndR (f_X7_isDigit r2) fun r4 =>
  if r4 = 0 then (
  if (128 : Int32) ≤ r2 then (
  f_X7_next_164 m1)
  else (
  zz_bndR (f_J0_indexOf_0f7a4 0 ((r2.toUInt32 % 65536).toInt32)) fun r5 =>
  if r5 < 0 then (
  f_X7_next_164 m1)
  else (
  zz_letM (zz_setI m1 30 4 r2) fun m6 =>
  zz_letM (zz_setI m6 30 3 ((m6.1 30 3) + (1 : Int32))) fun m7 =>
  some m7)))
  else (
  zz_bndR (f_X7_nextNumber m1) fun m8 =>
  some m8))
  else (
  zz_bndR (f_X7_nextWord m1) fun m9 =>
  some m9))
  else (
  zz_letM (zz_setI m1 30 4 (0 : Int32)) fun m10 =>
  some m10))
  else (
  zz_letM (zz_setI m1 30 4 (3 : Int32)) fun m11 =>
  some m11)
theorem t_X7_next_50 {l : Launch} {G : zz_G} (hN : 107 ≤ zz_N G)  : ∀ (m : zz_Mem), zz_Sim zz_sh l G mX7_next 4 zz_vV zz_mV (f_X7_next_50 m) 50 [(0, .ref (zz_a G 30))] [] m := by
  intro m
  unfold f_X7_next_50
  refine zs_aload_n dX7_next_50 rfl 0 rfl ?_
  refine zs_aload_n dX7_next_51 rfl 0 rfl ?_
  refine zs_getI fl_X7_35 dX7_next_52 (sh_30 hN) rfl ?_
  refine zs_putI fl_X7_58 dX7_next_55 (sh_30 hN) rfl ⟨rfl, rfl⟩ (fun m1 => ?_)
  refine zs_aload_n dX7_next_58 rfl 0 rfl ?_
  refine zs_aload_n dX7_next_59 rfl 0 rfl ?_
  refine zs_getI fl_X7_35 dX7_next_60 (sh_30 hN) rfl ?_
  refine zs_cV_iR (rest := []) (k_X7_byteAt hN _ _) dX7_next_63 lv_X7_61 ok_X7_byteAt (zz_rcv_o (sh_30 hN) rfl) (Nat.le_of_ble_eq_true rfl) rfl rfl (Nat.le_of_ble_eq_true rfl) (fun r2 => ?_)
  refine zs_istore_n [(1, .int r2), (0, .ref (zz_a G 30))] dX7_next_66 rfl (Nat.le_of_ble_eq_true rfl) rfl ?_
  refine zs_aload_n dX7_next_67 rfl 1 rfl ?_
  refine zs_getI fl_X7_38 dX7_next_68 (sh_30 hN) rfl ?_
  refine zs_if_eq (tgt := 82) dX7_next_71 (by decide) ?_ ?_
  · refine zs_aload_n dX7_next_82 rfl 1 rfl ?_
    refine zs_getI fl_X7_35 dX7_next_83 (sh_30 hN) rfl ?_
    refine zs_aload_n dX7_next_86 rfl 1 rfl ?_
    refine zs_getI fl_X7_32 dX7_next_87 (sh_30 hN) rfl ?_
    refine zs_icmp_lt (tgt := 101) dX7_next_90 (by decide) ?_ ?_
    · refine zs_iload_n dX7_next_101 rfl 0 rfl ?_
      refine zs_cS_iR (rest := []) (k_X7_isLetter hN _ _) dX7_next_102 ls_X7_65 ok_X7_isLetter (Nat.le_of_ble_eq_true rfl) rfl rfl (Nat.le_of_ble_eq_true rfl) (fun r3 => ?_)
      refine zs_if_eq (tgt := 115) dX7_next_105 (by decide) ?_ ?_
      · refine zs_iload_n dX7_next_115 rfl 0 rfl ?_
        refine zs_cS_iR (rest := []) (k_X7_isDigit hN _ _) dX7_next_116 ls_X7_72 ok_X7_isDigit (Nat.le_of_ble_eq_true rfl) rfl rfl (Nat.le_of_ble_eq_true rfl) (fun r4 => ?_)
        refine zs_if_eq (tgt := 129) dX7_next_119 (by decide) ?_ ?_
        · refine zs_iload_n dX7_next_129 rfl 0 rfl ?_
          refine zs_sipush (v := (128 : Int32)) dX7_next_130 cs_128 ?_
          refine zs_icmp_ge (tgt := 164) dX7_next_133 (by decide) ?_ ?_
          · refine zs_sub [1] rfl ?_
            exact t_X7_next_164 hN _
          · refine zs_ldcS (w := 0) dX7_next_136 (by decide +kernel) ?_
            refine zs_iload_n dX7_next_138 rfl 0 rfl ?_
            refine zs_i2c dX7_next_139 ?_
            refine zs_cV_iR (rest := []) (k_J0_indexOf_0f7a4 hN (Nat.le_of_ble_eq_true rfl) _ _) dX7_next_140 lv_X7_80 ok_J0_indexOf_0f7a4 (zz_rcv_s (Nat.le_of_ble_eq_true rfl)) (Nat.le_of_ble_eq_true rfl) rfl rfl (Nat.le_of_ble_eq_true rfl) (fun r5 => ?_)
            refine zs_if_lt (tgt := 164) dX7_next_143 (by decide) ?_ ?_
            · refine zs_sub [1] rfl ?_
              exact t_X7_next_164 hN _
            · refine zs_aload_n dX7_next_146 rfl 1 rfl ?_
              refine zs_iload_n dX7_next_147 rfl 0 rfl ?_
              refine zs_putI fl_X7_52 dX7_next_148 (sh_30 hN) rfl ⟨rfl, rfl⟩ (fun m6 => ?_)
              refine zs_aload_n dX7_next_151 rfl 1 rfl ?_
              refine zs_dup dX7_next_152 rfl ?_
              refine zs_getI fl_X7_35 dX7_next_153 (sh_30 hN) rfl ?_
              refine zs_iconst (v := (1 : Int32)) dX7_next_156 ci_1 ?_
              refine zs_iadd dX7_next_157 ?_
              refine zs_putI fl_X7_35 dX7_next_158 (sh_30 hN) rfl ⟨rfl, rfl⟩ (fun m7 => ?_)
              refine zs_goto (tgt := 169) dX7_next_161 (by decide) ?_
              exact zs_vret dX7_next_169 rfl rfl rfl
        · refine zs_aload_n dX7_next_122 rfl 1 rfl ?_
          refine zs_cV_vW (rest := []) (k_X7_nextNumber hN  _) dX7_next_123 lv_X7_75 ok_X7_nextNumber (zz_rcv_o (sh_30 hN) rfl) (Nat.le_of_ble_eq_true rfl) rfl rfl (Nat.le_of_ble_eq_true rfl) (fun m8 => ?_)
          refine zs_goto (tgt := 169) dX7_next_126 (by decide) ?_
          exact zs_vret dX7_next_169 rfl rfl rfl
      · refine zs_aload_n dX7_next_108 rfl 1 rfl ?_
        refine zs_cV_vW (rest := []) (k_X7_nextWord hN  _) dX7_next_109 lv_X7_69 ok_X7_nextWord (zz_rcv_o (sh_30 hN) rfl) (Nat.le_of_ble_eq_true rfl) rfl rfl (Nat.le_of_ble_eq_true rfl) (fun m9 => ?_)
        refine zs_goto (tgt := 169) dX7_next_112 (by decide) ?_
        exact zs_vret dX7_next_169 rfl rfl rfl
    · refine zs_aload_n dX7_next_93 rfl 1 rfl ?_
      refine zs_iconst (v := (0 : Int32)) dX7_next_94 ci_0 ?_
      refine zs_putI fl_X7_52 dX7_next_95 (sh_30 hN) rfl ⟨rfl, rfl⟩ (fun m10 => ?_)
      refine zs_goto (tgt := 169) dX7_next_98 (by decide) ?_
      exact zs_vret dX7_next_169 rfl rfl rfl
  · refine zs_aload_n dX7_next_74 rfl 1 rfl ?_
    refine zs_iconst (v := (3 : Int32)) dX7_next_75 ci_3 ?_
    refine zs_putI fl_X7_52 dX7_next_76 (sh_30 hN) rfl ⟨rfl, rfl⟩ (fun m11 => ?_)
    refine zs_goto (tgt := 169) dX7_next_79 (by decide) ?_
    exact zs_vret dX7_next_169 rfl rfl rfl
def f_X7_next_37  (k0 : zz_Mem → Option zz_Mem) (m : zz_Mem) : Option zz_Mem :=
  zz_letM (zz_setI m 30 3 ((m.1 30 3) + (1 : Int32))) fun m1 =>
  k0 m1
theorem t_X7_next_37 {l : Launch} {G : zz_G} (hN : 107 ≤ zz_N G) {k0 : zz_Mem → Option zz_Mem} (hk0 : ∀  (m : zz_Mem), zz_Sim zz_sh l G mX7_next 4 zz_vV zz_mV (k0 m) 0 [(0, .ref (zz_a G 30))] [] m) : ∀ (m : zz_Mem), zz_Sim zz_sh l G mX7_next 4 zz_vV zz_mV (f_X7_next_37 k0 m) 37 [(0, .ref (zz_a G 30))] [] m := by
  intro m
  unfold f_X7_next_37
  refine zs_aload_n dX7_next_37 rfl 0 rfl ?_
  refine zs_dup dX7_next_38 rfl ?_
  refine zs_getI fl_X7_35 dX7_next_39 (sh_30 hN) rfl ?_
  refine zs_iconst (v := (1 : Int32)) dX7_next_42 ci_1 ?_
  refine zs_iadd dX7_next_43 ?_
  refine zs_putI fl_X7_35 dX7_next_44 (sh_30 hN) rfl ⟨rfl, rfl⟩ (fun m1 => ?_)
  refine zs_goto (tgt := 0) dX7_next_47 (by decide) ?_
  exact hk0 _
def f_X7_next_0   : Nat → zz_Mem → Option zz_Mem
  | 0, _ => none
  | n + 1, m =>
  if (m.1 30 2) ≤ (m.1 30 3) then (
  f_X7_next_50 m)
  else (
  zz_bndR (f_X7_byteAt m (m.1 30 3)) fun r1 =>
  if r1 = (32 : Int32) then (
  f_X7_next_37 (f_X7_next_0 n) m)
  else (
  zz_bndR (f_X7_byteAt m (m.1 30 3)) fun r2 =>
  if r2 = (10 : Int32) then (
  f_X7_next_37 (f_X7_next_0 n) m)
  else (
  f_X7_next_50 m)))
theorem t_X7_next_0 {l : Launch} {G : zz_G} (hN : 107 ≤ zz_N G)  : ∀ (n : Nat) (m : zz_Mem), zz_Sim zz_sh l G mX7_next 4 zz_vV zz_mV (f_X7_next_0 n m) 0 [(0, .ref (zz_a G 30))] [] m := by
  intro n
  induction n with
  | zero => intro _; exact zs_none
  | succ n ih =>
    intro m
    rw [f_X7_next_0]
    refine zs_aload_n dX7_next_0 rfl 0 rfl ?_
    refine zs_getI fl_X7_35 dX7_next_1 (sh_30 hN) rfl ?_
    refine zs_aload_n dX7_next_4 rfl 0 rfl ?_
    refine zs_getI fl_X7_32 dX7_next_5 (sh_30 hN) rfl ?_
    refine zs_icmp_ge (tgt := 50) dX7_next_8 (by decide) ?_ ?_
    · exact t_X7_next_50 hN _
    · refine zs_aload_n dX7_next_11 rfl 0 rfl ?_
      refine zs_aload_n dX7_next_12 rfl 0 rfl ?_
      refine zs_getI fl_X7_35 dX7_next_13 (sh_30 hN) rfl ?_
      refine zs_cV_iR (rest := []) (k_X7_byteAt hN _ _) dX7_next_16 lv_X7_61 ok_X7_byteAt (zz_rcv_o (sh_30 hN) rfl) (Nat.le_of_ble_eq_true rfl) rfl rfl (Nat.le_of_ble_eq_true rfl) (fun r1 => ?_)
      refine zs_bipush (v := (32 : Int32)) dX7_next_19 cb_32 ?_
      refine zs_icmp_eq (tgt := 37) dX7_next_21 (by decide) ?_ ?_
      · exact t_X7_next_37 hN ih _
      · refine zs_aload_n dX7_next_24 rfl 0 rfl ?_
        refine zs_aload_n dX7_next_25 rfl 0 rfl ?_
        refine zs_getI fl_X7_35 dX7_next_26 (sh_30 hN) rfl ?_
        refine zs_cV_iR (rest := []) (k_X7_byteAt hN _ _) dX7_next_29 lv_X7_61 ok_X7_byteAt (zz_rcv_o (sh_30 hN) rfl) (Nat.le_of_ble_eq_true rfl) rfl rfl (Nat.le_of_ble_eq_true rfl) (fun r2 => ?_)
        refine zs_bipush (v := (10 : Int32)) dX7_next_32 cb_10 ?_
        refine zs_icmp_ne (tgt := 50) dX7_next_34 (by decide) ?_ ?_
        · exact t_X7_next_50 hN _
        · exact t_X7_next_37 hN ih _
def f_X7_next   (m : zz_Mem) : Option zz_Mem :=
  f_X7_next_0 zz_fuel m
theorem k_X7_next {l : Launch} {G : zz_G} (hN : 107 ≤ zz_N G) : ∀ (m : zz_Mem), zz_Con zz_sh l G mX7_next 4 [.ref (zz_a G 30)] zz_vV zz_mV (f_X7_next m) m := by
  intro m
  refine zz_con (lv := [(0, .ref (zz_a G 30))]) (by decide +kernel) (Nat.le_of_ble_eq_true rfl) rfl ?_
  unfold f_X7_next
  exact t_X7_next_0 hN zz_fuel _
/-! X7_isWord: PillarDesk$Reader.isWord(Ljava/lang/String;)Z -/
theorem dX7_isWord_0 : decode cX7_isWord 0 = .ok (.aload_n 0, 1) := by decide +kernel
theorem dX7_isWord_1 : decode cX7_isWord 1 = .ok (.getfield 52, 3) := by decide +kernel
theorem dX7_isWord_4 : decode cX7_isWord 4 = .ok (.iconst 1, 1) := by decide +kernel
theorem dX7_isWord_5 : decode cX7_isWord 5 = .ok (.if_icmp .ne 19, 3) := by decide +kernel
theorem dX7_isWord_8 : decode cX7_isWord 8 = .ok (.aload_n 0, 1) := by decide +kernel
theorem dX7_isWord_9 : decode cX7_isWord 9 = .ok (.getfield 35, 3) := by decide +kernel
theorem dX7_isWord_12 : decode cX7_isWord 12 = .ok (.aload_n 0, 1) := by decide +kernel
theorem dX7_isWord_13 : decode cX7_isWord 13 = .ok (.getfield 58, 3) := by decide +kernel
theorem dX7_isWord_16 : decode cX7_isWord 16 = .ok (.isub, 1) := by decide +kernel
theorem dX7_isWord_17 : decode cX7_isWord 17 = .ok (.aload_n 1, 1) := by decide +kernel
theorem dX7_isWord_18 : decode cX7_isWord 18 = .ok (.invokevirtual 92, 3) := by decide +kernel
theorem dX7_isWord_21 : decode cX7_isWord 21 = .ok (.if_icmp .eq 5, 3) := by decide +kernel
theorem dX7_isWord_24 : decode cX7_isWord 24 = .ok (.iconst 0, 1) := by decide +kernel
theorem dX7_isWord_25 : decode cX7_isWord 25 = .ok (.ireturn, 1) := by decide +kernel
theorem dX7_isWord_26 : decode cX7_isWord 26 = .ok (.iconst 0, 1) := by decide +kernel
theorem dX7_isWord_27 : decode cX7_isWord 27 = .ok (.istore_n 2, 1) := by decide +kernel
theorem dX7_isWord_28 : decode cX7_isWord 28 = .ok (.iload_n 2, 1) := by decide +kernel
theorem dX7_isWord_29 : decode cX7_isWord 29 = .ok (.aload_n 1, 1) := by decide +kernel
theorem dX7_isWord_30 : decode cX7_isWord 30 = .ok (.invokevirtual 92, 3) := by decide +kernel
theorem dX7_isWord_33 : decode cX7_isWord 33 = .ok (.if_icmp .ge 29, 3) := by decide +kernel
theorem dX7_isWord_36 : decode cX7_isWord 36 = .ok (.aload_n 0, 1) := by decide +kernel
theorem dX7_isWord_37 : decode cX7_isWord 37 = .ok (.aload_n 0, 1) := by decide +kernel
theorem dX7_isWord_38 : decode cX7_isWord 38 = .ok (.getfield 58, 3) := by decide +kernel
theorem dX7_isWord_41 : decode cX7_isWord 41 = .ok (.iload_n 2, 1) := by decide +kernel
theorem dX7_isWord_42 : decode cX7_isWord 42 = .ok (.iadd, 1) := by decide +kernel
theorem dX7_isWord_43 : decode cX7_isWord 43 = .ok (.invokevirtual 61, 3) := by decide +kernel
theorem dX7_isWord_46 : decode cX7_isWord 46 = .ok (.aload_n 1, 1) := by decide +kernel
theorem dX7_isWord_47 : decode cX7_isWord 47 = .ok (.iload_n 2, 1) := by decide +kernel
theorem dX7_isWord_48 : decode cX7_isWord 48 = .ok (.invokevirtual 95, 3) := by decide +kernel
theorem dX7_isWord_51 : decode cX7_isWord 51 = .ok (.if_icmp .eq 5, 3) := by decide +kernel
theorem dX7_isWord_54 : decode cX7_isWord 54 = .ok (.iconst 0, 1) := by decide +kernel
theorem dX7_isWord_55 : decode cX7_isWord 55 = .ok (.ireturn, 1) := by decide +kernel
theorem dX7_isWord_56 : decode cX7_isWord 56 = .ok (.iinc 2 1, 3) := by decide +kernel
theorem dX7_isWord_59 : decode cX7_isWord 59 = .ok (.goto (-31), 3) := by decide +kernel
theorem dX7_isWord_62 : decode cX7_isWord 62 = .ok (.iconst 1, 1) := by decide +kernel
theorem dX7_isWord_63 : decode cX7_isWord 63 = .ok (.ireturn, 1) := by decide +kernel
def f_X7_isWord_28 (w0 : Nat) (m : zz_Mem)  : Nat → Int32 → Option Int32
  | 0, _ => none
  | n + 1, v2 =>
  zz_bndR (f_J0_length_8abf5 w0) fun r1 =>
  if r1 ≤ v2 then (
  some (1 : Int32))
  else (
  zz_bndR (f_X7_byteAt m ((m.1 30 5) + v2)) fun r2 =>
  zz_bndR (f_J0_charAt_5068e w0 v2) fun r3 =>
  if r2 = r3 then (
  zz_letI (v2 + (1 : Int32)) fun x4 =>
  f_X7_isWord_28 w0 m n x4)
  else (
  some (0 : Int32)))
theorem t_X7_isWord_28 {l : Launch} {G : zz_G} (hN : 107 ≤ zz_N G) {w0 : Nat} (hw0 : w0 < 30) {m : zz_Mem}  : ∀ (n : Nat) (v2 : Int32), zz_Sim zz_sh l G mX7_isWord 4 zz_vIr (zz_mC m) (f_X7_isWord_28 w0 m n v2) 28 [(0, .ref (zz_a G 30)), (1, .ref (zz_sk G w0)), (2, .int v2)] [] m := by
  intro n
  induction n with
  | zero => intro _; exact zs_none
  | succ n ih =>
    intro v2
    rw [f_X7_isWord_28]
    refine zs_iload_n dX7_isWord_28 rfl 2 rfl ?_
    refine zs_aload_n dX7_isWord_29 rfl 1 rfl ?_
    refine zs_cV_iR (rest := [.int v2]) (k_J0_length_8abf5 hN hw0  _) dX7_isWord_30 lv_X7_92 ok_J0_length_8abf5 (zz_rcv_s hw0) (Nat.le_of_ble_eq_true rfl) rfl rfl (Nat.le_of_ble_eq_true rfl) (fun r1 => ?_)
    refine zs_icmp_ge (tgt := 62) dX7_isWord_33 (by decide) ?_ ?_
    · refine zs_iconst (v := (1 : Int32)) dX7_isWord_62 ci_1 ?_
      exact zs_zret dX7_isWord_63 rfl rfl rfl rfl
    · refine zs_aload_n dX7_isWord_36 rfl 0 rfl ?_
      refine zs_aload_n dX7_isWord_37 rfl 0 rfl ?_
      refine zs_getI fl_X7_58 dX7_isWord_38 (sh_30 hN) rfl ?_
      refine zs_iload_n dX7_isWord_41 rfl 2 rfl ?_
      refine zs_iadd dX7_isWord_42 ?_
      refine zs_cV_iR (rest := []) (k_X7_byteAt hN _ _) dX7_isWord_43 lv_X7_61 ok_X7_byteAt (zz_rcv_o (sh_30 hN) rfl) (Nat.le_of_ble_eq_true rfl) rfl rfl (Nat.le_of_ble_eq_true rfl) (fun r2 => ?_)
      refine zs_aload_n dX7_isWord_46 rfl 1 rfl ?_
      refine zs_iload_n dX7_isWord_47 rfl 2 rfl ?_
      refine zs_cV_iR (rest := [.int r2]) (k_J0_charAt_5068e hN hw0 _ _) dX7_isWord_48 lv_X7_95 ok_J0_charAt_5068e (zz_rcv_s hw0) (Nat.le_of_ble_eq_true rfl) rfl rfl (Nat.le_of_ble_eq_true rfl) (fun r3 => ?_)
      refine zs_icmp_eq (tgt := 56) dX7_isWord_51 (by decide) ?_ ?_
      · refine zs_iinc (fun y => [(2, .int y), (0, .ref (zz_a G 30)), (1, .ref (zz_sk G w0))]) dX7_isWord_56 2 rfl ci_1 (Nat.le_of_ble_eq_true rfl) (fun _ => rfl) (fun x4 => ?_)
        refine zs_goto (tgt := 28) dX7_isWord_59 (by decide) ?_
        refine zs_sub [1, 2, 0] rfl ?_
        exact ih _
      · refine zs_iconst (v := (0 : Int32)) dX7_isWord_54 ci_0 ?_
        exact zs_zret dX7_isWord_55 rfl rfl rfl rfl
def f_X7_isWord (w0 : Nat) (m : zz_Mem)  : Option Int32 :=
  if (m.1 30 4) = (1 : Int32) then (
  zz_bndR (f_J0_length_8abf5 w0) fun r1 =>
  if ((m.1 30 3) - (m.1 30 5)) = r1 then (
  f_X7_isWord_28 w0 m zz_fuel (0 : Int32))
  else (
  some (0 : Int32)))
  else (
  some (0 : Int32))
theorem k_X7_isWord {l : Launch} {G : zz_G} (hN : 107 ≤ zz_N G) {w0 : Nat} (hw0 : w0 < 30) : ∀ (m : zz_Mem), zz_Con zz_sh l G mX7_isWord 4 [.ref (zz_a G 30), .ref (zz_sk G w0)] zz_vIr (zz_mC m) (f_X7_isWord w0 m) m := by
  intro m
  refine zz_con (lv := [(0, .ref (zz_a G 30)), (1, .ref (zz_sk G w0))]) (by decide +kernel) (Nat.le_of_ble_eq_true rfl) rfl ?_
  unfold f_X7_isWord
  refine zs_aload_n dX7_isWord_0 rfl 0 rfl ?_
  refine zs_getI fl_X7_52 dX7_isWord_1 (sh_30 hN) rfl ?_
  refine zs_iconst (v := (1 : Int32)) dX7_isWord_4 ci_1 ?_
  refine zs_icmp_ne (tgt := 24) dX7_isWord_5 (by decide) ?_ ?_
  · refine zs_iconst (v := (0 : Int32)) dX7_isWord_24 ci_0 ?_
    exact zs_zret dX7_isWord_25 rfl rfl rfl rfl
  · refine zs_aload_n dX7_isWord_8 rfl 0 rfl ?_
    refine zs_getI fl_X7_35 dX7_isWord_9 (sh_30 hN) rfl ?_
    refine zs_aload_n dX7_isWord_12 rfl 0 rfl ?_
    refine zs_getI fl_X7_58 dX7_isWord_13 (sh_30 hN) rfl ?_
    refine zs_isub dX7_isWord_16 ?_
    refine zs_aload_n dX7_isWord_17 rfl 1 rfl ?_
    refine zs_cV_iR (rest := [.int ((m.1 30 3) - (m.1 30 5))]) (k_J0_length_8abf5 hN hw0  _) dX7_isWord_18 lv_X7_92 ok_J0_length_8abf5 (zz_rcv_s hw0) (Nat.le_of_ble_eq_true rfl) rfl rfl (Nat.le_of_ble_eq_true rfl) (fun r1 => ?_)
    refine zs_icmp_eq (tgt := 26) dX7_isWord_21 (by decide) ?_ ?_
    · refine zs_iconst (v := (0 : Int32)) dX7_isWord_26 ci_0 ?_
      refine zs_istore_n [(2, .int (0 : Int32)), (0, .ref (zz_a G 30)), (1, .ref (zz_sk G w0))] dX7_isWord_27 rfl (Nat.le_of_ble_eq_true rfl) rfl ?_
      refine zs_sub [1, 2, 0] rfl ?_
      exact t_X7_isWord_28 hN hw0 zz_fuel _
    · refine zs_iconst (v := (0 : Int32)) dX7_isWord_24 ci_0 ?_
      exact zs_zret dX7_isWord_25 rfl rfl rfl rfl
/-! X7_takeWord: PillarDesk$Reader.takeWord(Ljava/lang/String;)V -/
theorem dX7_takeWord_0 : decode cX7_takeWord 0 = .ok (.aload_n 0, 1) := by decide +kernel
theorem dX7_takeWord_1 : decode cX7_takeWord 1 = .ok (.aload_n 1, 1) := by decide +kernel
theorem dX7_takeWord_2 : decode cX7_takeWord 2 = .ok (.invokevirtual 99, 3) := by decide +kernel
theorem dX7_takeWord_5 : decode cX7_takeWord 5 = .ok (.ifCond .eq 10, 3) := by decide +kernel
theorem dX7_takeWord_8 : decode cX7_takeWord 8 = .ok (.aload_n 0, 1) := by decide +kernel
theorem dX7_takeWord_9 : decode cX7_takeWord 9 = .ok (.invokevirtual 46, 3) := by decide +kernel
theorem dX7_takeWord_12 : decode cX7_takeWord 12 = .ok (.goto 8, 3) := by decide +kernel
theorem dX7_takeWord_15 : decode cX7_takeWord 15 = .ok (.aload_n 0, 1) := by decide +kernel
theorem dX7_takeWord_16 : decode cX7_takeWord 16 = .ok (.iconst 2, 1) := by decide +kernel
theorem dX7_takeWord_17 : decode cX7_takeWord 17 = .ok (.invokevirtual 85, 3) := by decide +kernel
theorem dX7_takeWord_20 : decode cX7_takeWord 20 = .ok (.return_, 1) := by decide +kernel
def f_X7_takeWord (w0 : Nat)  (m : zz_Mem) : Option zz_Mem :=
  zz_bndR (f_X7_isWord w0 m) fun r1 =>
  if r1 = 0 then (
  zz_bndR (f_X7_fail (2 : Int32) m) fun m2 =>
  some m2)
  else (
  zz_bndR (f_X7_next m) fun m3 =>
  some m3)
theorem k_X7_takeWord {l : Launch} {G : zz_G} (hN : 107 ≤ zz_N G) {w0 : Nat} (hw0 : w0 < 30) : ∀ (m : zz_Mem), zz_Con zz_sh l G mX7_takeWord 5 [.ref (zz_a G 30), .ref (zz_sk G w0)] zz_vV zz_mV (f_X7_takeWord w0 m) m := by
  intro m
  refine zz_con (lv := [(0, .ref (zz_a G 30)), (1, .ref (zz_sk G w0))]) (by decide +kernel) (Nat.le_of_ble_eq_true rfl) rfl ?_
  unfold f_X7_takeWord
  refine zs_aload_n dX7_takeWord_0 rfl 0 rfl ?_
  refine zs_aload_n dX7_takeWord_1 rfl 1 rfl ?_
  refine zs_cV_iR (rest := []) (k_X7_isWord hN hw0  _) dX7_takeWord_2 lv_X7_99 ok_X7_isWord (zz_rcv_o (sh_30 hN) rfl) (Nat.le_of_ble_eq_true rfl) rfl rfl (Nat.le_of_ble_eq_true rfl) (fun r1 => ?_)
  refine zs_if_eq (tgt := 15) dX7_takeWord_5 (by decide) ?_ ?_
  · refine zs_aload_n dX7_takeWord_15 rfl 0 rfl ?_
    refine zs_iconst (v := (2 : Int32)) dX7_takeWord_16 ci_2 ?_
    refine zs_cV_vW (rest := []) (k_X7_fail hN _ _) dX7_takeWord_17 lv_X7_85 ok_X7_fail (zz_rcv_o (sh_30 hN) rfl) (Nat.le_of_ble_eq_true rfl) rfl rfl (Nat.le_of_ble_eq_true rfl) (fun m2 => ?_)
    exact zs_vret dX7_takeWord_20 rfl rfl rfl
  · refine zs_aload_n dX7_takeWord_8 rfl 0 rfl ?_
    refine zs_cV_vW (rest := []) (k_X7_next hN  _) dX7_takeWord_9 lv_X7_46 ok_X7_next (zz_rcv_o (sh_30 hN) rfl) (Nat.le_of_ble_eq_true rfl) rfl rfl (Nat.le_of_ble_eq_true rfl) (fun m3 => ?_)
    refine zs_goto (tgt := 20) dX7_takeWord_12 (by decide) ?_
    exact zs_vret dX7_takeWord_20 rfl rfl rfl
/-! X7_takeSign: PillarDesk$Reader.takeSign(C)V -/
theorem dX7_takeSign_0 : decode cX7_takeSign 0 = .ok (.aload_n 0, 1) := by decide +kernel
theorem dX7_takeSign_1 : decode cX7_takeSign 1 = .ok (.getfield 52, 3) := by decide +kernel
theorem dX7_takeSign_4 : decode cX7_takeSign 4 = .ok (.iload_n 1, 1) := by decide +kernel
theorem dX7_takeSign_5 : decode cX7_takeSign 5 = .ok (.if_icmp .ne 10, 3) := by decide +kernel
theorem dX7_takeSign_8 : decode cX7_takeSign 8 = .ok (.aload_n 0, 1) := by decide +kernel
theorem dX7_takeSign_9 : decode cX7_takeSign 9 = .ok (.invokevirtual 46, 3) := by decide +kernel
theorem dX7_takeSign_12 : decode cX7_takeSign 12 = .ok (.goto 8, 3) := by decide +kernel
theorem dX7_takeSign_15 : decode cX7_takeSign 15 = .ok (.aload_n 0, 1) := by decide +kernel
theorem dX7_takeSign_16 : decode cX7_takeSign 16 = .ok (.iconst 2, 1) := by decide +kernel
theorem dX7_takeSign_17 : decode cX7_takeSign 17 = .ok (.invokevirtual 85, 3) := by decide +kernel
theorem dX7_takeSign_20 : decode cX7_takeSign 20 = .ok (.return_, 1) := by decide +kernel
def f_X7_takeSign  (p1 : Int32) (m : zz_Mem) : Option zz_Mem :=
  if (m.1 30 4) = p1 then (
  zz_bndR (f_X7_next m) fun m2 =>
  some m2)
  else (
  zz_bndR (f_X7_fail (2 : Int32) m) fun m1 =>
  some m1)
theorem k_X7_takeSign {l : Launch} {G : zz_G} (hN : 107 ≤ zz_N G) : ∀ (p1 : Int32) (m : zz_Mem), zz_Con zz_sh l G mX7_takeSign 5 [.ref (zz_a G 30), .int p1] zz_vV zz_mV (f_X7_takeSign p1 m) m := by
  intro p1 m
  refine zz_con (lv := [(0, .ref (zz_a G 30)), (1, .int p1)]) (by decide +kernel) (Nat.le_of_ble_eq_true rfl) rfl ?_
  unfold f_X7_takeSign
  refine zs_aload_n dX7_takeSign_0 rfl 0 rfl ?_
  refine zs_getI fl_X7_52 dX7_takeSign_1 (sh_30 hN) rfl ?_
  refine zs_iload_n dX7_takeSign_4 rfl 1 rfl ?_
  refine zs_icmp_ne (tgt := 15) dX7_takeSign_5 (by decide) ?_ ?_
  · refine zs_aload_n dX7_takeSign_15 rfl 0 rfl ?_
    refine zs_iconst (v := (2 : Int32)) dX7_takeSign_16 ci_2 ?_
    refine zs_cV_vW (rest := []) (k_X7_fail hN _ _) dX7_takeSign_17 lv_X7_85 ok_X7_fail (zz_rcv_o (sh_30 hN) rfl) (Nat.le_of_ble_eq_true rfl) rfl rfl (Nat.le_of_ble_eq_true rfl) (fun m1 => ?_)
    exact zs_vret dX7_takeSign_20 rfl rfl rfl
  · refine zs_aload_n dX7_takeSign_8 rfl 0 rfl ?_
    refine zs_cV_vW (rest := []) (k_X7_next hN  _) dX7_takeSign_9 lv_X7_46 ok_X7_next (zz_rcv_o (sh_30 hN) rfl) (Nat.le_of_ble_eq_true rfl) rfl rfl (Nat.le_of_ble_eq_true rfl) (fun m2 => ?_)
    refine zs_goto (tgt := 20) dX7_takeSign_12 (by decide) ?_
    exact zs_vret dX7_takeSign_20 rfl rfl rfl
/-! X7_takeNumber: PillarDesk$Reader.takeNumber(II)I -/
theorem dX7_takeNumber_0 : decode cX7_takeNumber 0 = .ok (.aload_n 0, 1) := by decide +kernel
theorem dX7_takeNumber_1 : decode cX7_takeNumber 1 = .ok (.getfield 89, 3) := by decide +kernel
theorem dX7_takeNumber_4 : decode cX7_takeNumber 4 = .ok (.istore_n 3, 1) := by decide +kernel
theorem dX7_takeNumber_5 : decode cX7_takeNumber 5 = .ok (.aload_n 0, 1) := by decide +kernel
theorem dX7_takeNumber_6 : decode cX7_takeNumber 6 = .ok (.getfield 52, 3) := by decide +kernel
theorem dX7_takeNumber_9 : decode cX7_takeNumber 9 = .ok (.iconst 2, 1) := by decide +kernel
theorem dX7_takeNumber_10 : decode cX7_takeNumber 10 = .ok (.if_icmp .eq 11, 3) := by decide +kernel
theorem dX7_takeNumber_13 : decode cX7_takeNumber 13 = .ok (.aload_n 0, 1) := by decide +kernel
theorem dX7_takeNumber_14 : decode cX7_takeNumber 14 = .ok (.iconst 2, 1) := by decide +kernel
theorem dX7_takeNumber_15 : decode cX7_takeNumber 15 = .ok (.invokevirtual 85, 3) := by decide +kernel
theorem dX7_takeNumber_18 : decode cX7_takeNumber 18 = .ok (.goto 25, 3) := by decide +kernel
theorem dX7_takeNumber_21 : decode cX7_takeNumber 21 = .ok (.iload_n 3, 1) := by decide +kernel
theorem dX7_takeNumber_22 : decode cX7_takeNumber 22 = .ok (.iload_n 1, 1) := by decide +kernel
theorem dX7_takeNumber_23 : decode cX7_takeNumber 23 = .ok (.if_icmp .lt 8, 3) := by decide +kernel
theorem dX7_takeNumber_26 : decode cX7_takeNumber 26 = .ok (.iload_n 3, 1) := by decide +kernel
theorem dX7_takeNumber_27 : decode cX7_takeNumber 27 = .ok (.iload_n 2, 1) := by decide +kernel
theorem dX7_takeNumber_28 : decode cX7_takeNumber 28 = .ok (.if_icmp .le 11, 3) := by decide +kernel
theorem dX7_takeNumber_31 : decode cX7_takeNumber 31 = .ok (.aload_n 0, 1) := by decide +kernel
theorem dX7_takeNumber_32 : decode cX7_takeNumber 32 = .ok (.iconst 3, 1) := by decide +kernel
theorem dX7_takeNumber_33 : decode cX7_takeNumber 33 = .ok (.invokevirtual 85, 3) := by decide +kernel
theorem dX7_takeNumber_36 : decode cX7_takeNumber 36 = .ok (.goto 7, 3) := by decide +kernel
theorem dX7_takeNumber_39 : decode cX7_takeNumber 39 = .ok (.aload_n 0, 1) := by decide +kernel
theorem dX7_takeNumber_40 : decode cX7_takeNumber 40 = .ok (.invokevirtual 46, 3) := by decide +kernel
theorem dX7_takeNumber_43 : decode cX7_takeNumber 43 = .ok (.iload_n 3, 1) := by decide +kernel
theorem dX7_takeNumber_44 : decode cX7_takeNumber 44 = .ok (.ireturn, 1) := by decide +kernel
def f_X7_takeNumber_31   (v3 : Int32) (m : zz_Mem) : Option (Int32 × zz_Mem) :=
  zz_bndR (f_X7_fail (3 : Int32) m) fun m1 =>
  some (v3, m1)
theorem t_X7_takeNumber_31 {l : Launch} {G : zz_G} (hN : 107 ≤ zz_N G)  : ∀ (v3 : Int32) (m : zz_Mem), zz_Sim zz_sh l G mX7_takeNumber 5 zz_vI zz_m2 (f_X7_takeNumber_31 v3 m) 31 [(0, .ref (zz_a G 30)), (3, .int v3)] [] m := by
  intro v3 m
  unfold f_X7_takeNumber_31
  refine zs_aload_n dX7_takeNumber_31 rfl 0 rfl ?_
  refine zs_iconst (v := (3 : Int32)) dX7_takeNumber_32 ci_3 ?_
  refine zs_cV_vW (rest := []) (k_X7_fail hN _ _) dX7_takeNumber_33 lv_X7_85 ok_X7_fail (zz_rcv_o (sh_30 hN) rfl) (Nat.le_of_ble_eq_true rfl) rfl rfl (Nat.le_of_ble_eq_true rfl) (fun m1 => ?_)
  refine zs_goto (tgt := 43) dX7_takeNumber_36 (by decide) ?_
  refine zs_iload_n dX7_takeNumber_43 rfl 1 rfl ?_
  exact zs_iret dX7_takeNumber_44 rfl rfl rfl
def f_X7_takeNumber  (p1 : Int32) (p2 : Int32) (m : zz_Mem) : Option (Int32 × zz_Mem) :=
  zz_letI (m.1 30 6) fun x1 =>
  if (m.1 30 4) = (2 : Int32) then (
  if x1 < p1 then (
  f_X7_takeNumber_31 x1 m)
  else (
  if x1 ≤ p2 then (
  zz_bndR (f_X7_next m) fun m2 =>
  some (x1, m2))
  else (
  f_X7_takeNumber_31 x1 m)))
  else (
  zz_bndR (f_X7_fail (2 : Int32) m) fun m3 =>
  some (x1, m3))
theorem k_X7_takeNumber {l : Launch} {G : zz_G} (hN : 107 ≤ zz_N G) : ∀ (p1 : Int32) (p2 : Int32) (m : zz_Mem), zz_Con zz_sh l G mX7_takeNumber 5 [.ref (zz_a G 30), .int p1, .int p2] zz_vI zz_m2 (f_X7_takeNumber p1 p2 m) m := by
  intro p1 p2 m
  refine zz_con (lv := [(0, .ref (zz_a G 30)), (1, .int p1), (2, .int p2)]) (by decide +kernel) (Nat.le_of_ble_eq_true rfl) rfl ?_
  unfold f_X7_takeNumber
  refine zs_aload_n dX7_takeNumber_0 rfl 0 rfl ?_
  refine zs_getI fl_X7_89 dX7_takeNumber_1 (sh_30 hN) rfl ?_
  refine zs_letI (fun x1 => ?_)
  refine zs_istore_n [(3, .int x1), (0, .ref (zz_a G 30)), (1, .int p1), (2, .int p2)] dX7_takeNumber_4 rfl (Nat.le_of_ble_eq_true rfl) rfl ?_
  refine zs_aload_n dX7_takeNumber_5 rfl 1 rfl ?_
  refine zs_getI fl_X7_52 dX7_takeNumber_6 (sh_30 hN) rfl ?_
  refine zs_iconst (v := (2 : Int32)) dX7_takeNumber_9 ci_2 ?_
  refine zs_icmp_eq (tgt := 21) dX7_takeNumber_10 (by decide) ?_ ?_
  · refine zs_iload_n dX7_takeNumber_21 rfl 0 rfl ?_
    refine zs_iload_n dX7_takeNumber_22 rfl 2 rfl ?_
    refine zs_icmp_lt (tgt := 31) dX7_takeNumber_23 (by decide) ?_ ?_
    · refine zs_sub [1, 0] rfl ?_
      exact t_X7_takeNumber_31 hN _ _
    · refine zs_iload_n dX7_takeNumber_26 rfl 0 rfl ?_
      refine zs_iload_n dX7_takeNumber_27 rfl 3 rfl ?_
      refine zs_icmp_le (tgt := 39) dX7_takeNumber_28 (by decide) ?_ ?_
      · refine zs_aload_n dX7_takeNumber_39 rfl 1 rfl ?_
        refine zs_cV_vW (rest := []) (k_X7_next hN  _) dX7_takeNumber_40 lv_X7_46 ok_X7_next (zz_rcv_o (sh_30 hN) rfl) (Nat.le_of_ble_eq_true rfl) rfl rfl (Nat.le_of_ble_eq_true rfl) (fun m2 => ?_)
        refine zs_iload_n dX7_takeNumber_43 rfl 0 rfl ?_
        exact zs_iret dX7_takeNumber_44 rfl rfl rfl
      · refine zs_sub [1, 0] rfl ?_
        exact t_X7_takeNumber_31 hN _ _
  · refine zs_aload_n dX7_takeNumber_13 rfl 1 rfl ?_
    refine zs_iconst (v := (2 : Int32)) dX7_takeNumber_14 ci_2 ?_
    refine zs_cV_vW (rest := []) (k_X7_fail hN _ _) dX7_takeNumber_15 lv_X7_85 ok_X7_fail (zz_rcv_o (sh_30 hN) rfl) (Nat.le_of_ble_eq_true rfl) rfl rfl (Nat.le_of_ble_eq_true rfl) (fun m3 => ?_)
    refine zs_goto (tgt := 43) dX7_takeNumber_18 (by decide) ?_
    refine zs_iload_n dX7_takeNumber_43 rfl 0 rfl ?_
    exact zs_iret dX7_takeNumber_44 rfl rfl rfl
/-! X7_goDeeper: PillarDesk$Reader.goDeeper(I)V -/
theorem dX7_goDeeper_0 : decode cX7_goDeeper 0 = .ok (.iload_n 1, 1) := by decide +kernel
theorem dX7_goDeeper_1 : decode cX7_goDeeper 1 = .ok (.bipush 6, 2) := by decide +kernel
theorem dX7_goDeeper_3 : decode cX7_goDeeper 3 = .ok (.if_icmp .lt 11, 3) := by decide +kernel
theorem dX7_goDeeper_6 : decode cX7_goDeeper 6 = .ok (.aload_n 0, 1) := by decide +kernel
theorem dX7_goDeeper_7 : decode cX7_goDeeper 7 = .ok (.iconst 4, 1) := by decide +kernel
theorem dX7_goDeeper_8 : decode cX7_goDeeper 8 = .ok (.invokevirtual 85, 3) := by decide +kernel
theorem dX7_goDeeper_11 : decode cX7_goDeeper 11 = .ok (.goto 7, 3) := by decide +kernel
theorem dX7_goDeeper_14 : decode cX7_goDeeper 14 = .ok (.aload_n 0, 1) := by decide +kernel
theorem dX7_goDeeper_15 : decode cX7_goDeeper 15 = .ok (.invokevirtual 46, 3) := by decide +kernel
theorem dX7_goDeeper_18 : decode cX7_goDeeper 18 = .ok (.return_, 1) := by decide +kernel
def f_X7_goDeeper  (p1 : Int32) (m : zz_Mem) : Option zz_Mem :=
  if p1 < (6 : Int32) then (
  zz_bndR (f_X7_next m) fun m1 =>
  some m1)
  else (
  zz_bndR (f_X7_fail (4 : Int32) m) fun m2 =>
  some m2)
theorem k_X7_goDeeper {l : Launch} {G : zz_G} (hN : 107 ≤ zz_N G) : ∀ (p1 : Int32) (m : zz_Mem), zz_Con zz_sh l G mX7_goDeeper 5 [.ref (zz_a G 30), .int p1] zz_vV zz_mV (f_X7_goDeeper p1 m) m := by
  intro p1 m
  refine zz_con (lv := [(0, .ref (zz_a G 30)), (1, .int p1)]) (by decide +kernel) (Nat.le_of_ble_eq_true rfl) rfl ?_
  unfold f_X7_goDeeper
  refine zs_iload_n dX7_goDeeper_0 rfl 1 rfl ?_
  refine zs_bipush (v := (6 : Int32)) dX7_goDeeper_1 cb_6 ?_
  refine zs_icmp_lt (tgt := 14) dX7_goDeeper_3 (by decide) ?_ ?_
  · refine zs_aload_n dX7_goDeeper_14 rfl 0 rfl ?_
    refine zs_cV_vW (rest := []) (k_X7_next hN  _) dX7_goDeeper_15 lv_X7_46 ok_X7_next (zz_rcv_o (sh_30 hN) rfl) (Nat.le_of_ble_eq_true rfl) rfl rfl (Nat.le_of_ble_eq_true rfl) (fun m1 => ?_)
    exact zs_vret dX7_goDeeper_18 rfl rfl rfl
  · refine zs_aload_n dX7_goDeeper_6 rfl 0 rfl ?_
    refine zs_iconst (v := (4 : Int32)) dX7_goDeeper_7 ci_4 ?_
    refine zs_cV_vW (rest := []) (k_X7_fail hN _ _) dX7_goDeeper_8 lv_X7_85 ok_X7_fail (zz_rcv_o (sh_30 hN) rfl) (Nat.le_of_ble_eq_true rfl) rfl rfl (Nat.le_of_ble_eq_true rfl) (fun m2 => ?_)
    refine zs_goto (tgt := 18) dX7_goDeeper_11 (by decide) ?_
    exact zs_vret dX7_goDeeper_18 rfl rfl rfl
/-! X7_ratesVariable: PillarDesk$Reader.ratesVariable()I -/
theorem dX7_ratesVariable_0 : decode cX7_ratesVariable 0 = .ok (.aload_n 0, 1) := by decide +kernel
theorem dX7_ratesVariable_1 : decode cX7_ratesVariable 1 = .ok (.ldc_w 269, 3) := by decide +kernel
theorem dX7_ratesVariable_4 : decode cX7_ratesVariable 4 = .ok (.invokevirtual 99, 3) := by decide +kernel
theorem dX7_ratesVariable_7 : decode cX7_ratesVariable 7 = .ok (.ifCond .eq 5, 3) := by decide +kernel
theorem dX7_ratesVariable_10 : decode cX7_ratesVariable 10 = .ok (.iconst 0, 1) := by decide +kernel
theorem dX7_ratesVariable_11 : decode cX7_ratesVariable 11 = .ok (.ireturn, 1) := by decide +kernel
theorem dX7_ratesVariable_12 : decode cX7_ratesVariable 12 = .ok (.aload_n 0, 1) := by decide +kernel
theorem dX7_ratesVariable_13 : decode cX7_ratesVariable 13 = .ok (.ldc_w 271, 3) := by decide +kernel
theorem dX7_ratesVariable_16 : decode cX7_ratesVariable 16 = .ok (.invokevirtual 99, 3) := by decide +kernel
theorem dX7_ratesVariable_19 : decode cX7_ratesVariable 19 = .ok (.ifCond .eq 5, 3) := by decide +kernel
theorem dX7_ratesVariable_22 : decode cX7_ratesVariable 22 = .ok (.iconst 1, 1) := by decide +kernel
theorem dX7_ratesVariable_23 : decode cX7_ratesVariable 23 = .ok (.ireturn, 1) := by decide +kernel
theorem dX7_ratesVariable_24 : decode cX7_ratesVariable 24 = .ok (.aload_n 0, 1) := by decide +kernel
theorem dX7_ratesVariable_25 : decode cX7_ratesVariable 25 = .ok (.ldc_w 273, 3) := by decide +kernel
theorem dX7_ratesVariable_28 : decode cX7_ratesVariable 28 = .ok (.invokevirtual 99, 3) := by decide +kernel
theorem dX7_ratesVariable_31 : decode cX7_ratesVariable 31 = .ok (.ifCond .eq 5, 3) := by decide +kernel
theorem dX7_ratesVariable_34 : decode cX7_ratesVariable 34 = .ok (.iconst 2, 1) := by decide +kernel
theorem dX7_ratesVariable_35 : decode cX7_ratesVariable 35 = .ok (.ireturn, 1) := by decide +kernel
theorem dX7_ratesVariable_36 : decode cX7_ratesVariable 36 = .ok (.aload_n 0, 1) := by decide +kernel
theorem dX7_ratesVariable_37 : decode cX7_ratesVariable 37 = .ok (.ldc 120, 2) := by decide +kernel
theorem dX7_ratesVariable_39 : decode cX7_ratesVariable 39 = .ok (.invokevirtual 99, 3) := by decide +kernel
theorem dX7_ratesVariable_42 : decode cX7_ratesVariable 42 = .ok (.ifCond .eq 5, 3) := by decide +kernel
theorem dX7_ratesVariable_45 : decode cX7_ratesVariable 45 = .ok (.iconst 3, 1) := by decide +kernel
theorem dX7_ratesVariable_46 : decode cX7_ratesVariable 46 = .ok (.ireturn, 1) := by decide +kernel
theorem dX7_ratesVariable_47 : decode cX7_ratesVariable 47 = .ok (.aload_n 0, 1) := by decide +kernel
theorem dX7_ratesVariable_48 : decode cX7_ratesVariable 48 = .ok (.ldc_w 275, 3) := by decide +kernel
theorem dX7_ratesVariable_51 : decode cX7_ratesVariable 51 = .ok (.invokevirtual 99, 3) := by decide +kernel
theorem dX7_ratesVariable_54 : decode cX7_ratesVariable 54 = .ok (.ifCond .eq 7, 3) := by decide +kernel
theorem dX7_ratesVariable_57 : decode cX7_ratesVariable 57 = .ok (.iconst 4, 1) := by decide +kernel
theorem dX7_ratesVariable_58 : decode cX7_ratesVariable 58 = .ok (.goto 4, 3) := by decide +kernel
theorem dX7_ratesVariable_61 : decode cX7_ratesVariable 61 = .ok (.iconst (-1), 1) := by decide +kernel
theorem dX7_ratesVariable_62 : decode cX7_ratesVariable 62 = .ok (.ireturn, 1) := by decide +kernel
def f_X7_ratesVariable (m : zz_Mem)  : Option Int32 :=
  zz_bndR (f_X7_isWord 22 m) fun r1 =>
  if r1 = 0 then (
  zz_bndR (f_X7_isWord 23 m) fun r2 =>
  if r2 = 0 then (
  zz_bndR (f_X7_isWord 24 m) fun r3 =>
  if r3 = 0 then (
  zz_bndR (f_X7_isWord 4 m) fun r4 =>
  if r4 = 0 then (
  zz_bndR (f_X7_isWord 25 m) fun r5 =>
  if r5 = 0 then (
  some (-1 : Int32))
  else (
  some (4 : Int32)))
  else (
  some (3 : Int32)))
  else (
  some (2 : Int32)))
  else (
  some (1 : Int32)))
  else (
  some (0 : Int32))
theorem k_X7_ratesVariable {l : Launch} {G : zz_G} (hN : 107 ≤ zz_N G) : ∀ (m : zz_Mem), zz_Con zz_sh l G mX7_ratesVariable 5 [.ref (zz_a G 30)] zz_vIr (zz_mC m) (f_X7_ratesVariable m) m := by
  intro m
  refine zz_con (lv := [(0, .ref (zz_a G 30))]) (by decide +kernel) (Nat.le_of_ble_eq_true rfl) rfl ?_
  unfold f_X7_ratesVariable
  refine zs_aload_n dX7_ratesVariable_0 rfl 0 rfl ?_
  refine zs_ldcwS (w := 22) dX7_ratesVariable_1 (by decide +kernel) ?_
  refine zs_cV_iR (rest := []) (k_X7_isWord hN (Nat.le_of_ble_eq_true rfl)  _) dX7_ratesVariable_4 lv_X7_99 ok_X7_isWord (zz_rcv_o (sh_30 hN) rfl) (Nat.le_of_ble_eq_true rfl) rfl rfl (Nat.le_of_ble_eq_true rfl) (fun r1 => ?_)
  refine zs_if_eq (tgt := 12) dX7_ratesVariable_7 (by decide) ?_ ?_
  · refine zs_aload_n dX7_ratesVariable_12 rfl 0 rfl ?_
    refine zs_ldcwS (w := 23) dX7_ratesVariable_13 (by decide +kernel) ?_
    refine zs_cV_iR (rest := []) (k_X7_isWord hN (Nat.le_of_ble_eq_true rfl)  _) dX7_ratesVariable_16 lv_X7_99 ok_X7_isWord (zz_rcv_o (sh_30 hN) rfl) (Nat.le_of_ble_eq_true rfl) rfl rfl (Nat.le_of_ble_eq_true rfl) (fun r2 => ?_)
    refine zs_if_eq (tgt := 24) dX7_ratesVariable_19 (by decide) ?_ ?_
    · refine zs_aload_n dX7_ratesVariable_24 rfl 0 rfl ?_
      refine zs_ldcwS (w := 24) dX7_ratesVariable_25 (by decide +kernel) ?_
      refine zs_cV_iR (rest := []) (k_X7_isWord hN (Nat.le_of_ble_eq_true rfl)  _) dX7_ratesVariable_28 lv_X7_99 ok_X7_isWord (zz_rcv_o (sh_30 hN) rfl) (Nat.le_of_ble_eq_true rfl) rfl rfl (Nat.le_of_ble_eq_true rfl) (fun r3 => ?_)
      refine zs_if_eq (tgt := 36) dX7_ratesVariable_31 (by decide) ?_ ?_
      · refine zs_aload_n dX7_ratesVariable_36 rfl 0 rfl ?_
        refine zs_ldcS (w := 4) dX7_ratesVariable_37 (by decide +kernel) ?_
        refine zs_cV_iR (rest := []) (k_X7_isWord hN (Nat.le_of_ble_eq_true rfl)  _) dX7_ratesVariable_39 lv_X7_99 ok_X7_isWord (zz_rcv_o (sh_30 hN) rfl) (Nat.le_of_ble_eq_true rfl) rfl rfl (Nat.le_of_ble_eq_true rfl) (fun r4 => ?_)
        refine zs_if_eq (tgt := 47) dX7_ratesVariable_42 (by decide) ?_ ?_
        · refine zs_aload_n dX7_ratesVariable_47 rfl 0 rfl ?_
          refine zs_ldcwS (w := 25) dX7_ratesVariable_48 (by decide +kernel) ?_
          refine zs_cV_iR (rest := []) (k_X7_isWord hN (Nat.le_of_ble_eq_true rfl)  _) dX7_ratesVariable_51 lv_X7_99 ok_X7_isWord (zz_rcv_o (sh_30 hN) rfl) (Nat.le_of_ble_eq_true rfl) rfl rfl (Nat.le_of_ble_eq_true rfl) (fun r5 => ?_)
          refine zs_if_eq (tgt := 61) dX7_ratesVariable_54 (by decide) ?_ ?_
          · refine zs_iconst (v := (-1 : Int32)) dX7_ratesVariable_61 ci_m1 ?_
            exact zs_iret dX7_ratesVariable_62 rfl rfl rfl
          · refine zs_iconst (v := (4 : Int32)) dX7_ratesVariable_57 ci_4 ?_
            refine zs_goto (tgt := 62) dX7_ratesVariable_58 (by decide) ?_
            exact zs_iret dX7_ratesVariable_62 rfl rfl rfl
        · refine zs_iconst (v := (3 : Int32)) dX7_ratesVariable_45 ci_3 ?_
          exact zs_iret dX7_ratesVariable_46 rfl rfl rfl
      · refine zs_iconst (v := (2 : Int32)) dX7_ratesVariable_34 ci_2 ?_
        exact zs_iret dX7_ratesVariable_35 rfl rfl rfl
    · refine zs_iconst (v := (1 : Int32)) dX7_ratesVariable_22 ci_1 ?_
      exact zs_iret dX7_ratesVariable_23 rfl rfl rfl
  · refine zs_iconst (v := (0 : Int32)) dX7_ratesVariable_10 ci_0 ?_
    exact zs_iret dX7_ratesVariable_11 rfl rfl rfl
/-! X7_opensVariable: PillarDesk$Reader.opensVariable()I -/
theorem dX7_opensVariable_0 : decode cX7_opensVariable 0 = .ok (.aload_n 0, 1) := by decide +kernel
theorem dX7_opensVariable_1 : decode cX7_opensVariable 1 = .ok (.ldc_w 277, 3) := by decide +kernel
theorem dX7_opensVariable_4 : decode cX7_opensVariable 4 = .ok (.invokevirtual 99, 3) := by decide +kernel
theorem dX7_opensVariable_7 : decode cX7_opensVariable 7 = .ok (.ifCond .eq 5, 3) := by decide +kernel
theorem dX7_opensVariable_10 : decode cX7_opensVariable 10 = .ok (.iconst 0, 1) := by decide +kernel
theorem dX7_opensVariable_11 : decode cX7_opensVariable 11 = .ok (.ireturn, 1) := by decide +kernel
theorem dX7_opensVariable_12 : decode cX7_opensVariable 12 = .ok (.aload_n 0, 1) := by decide +kernel
theorem dX7_opensVariable_13 : decode cX7_opensVariable 13 = .ok (.ldc 138, 2) := by decide +kernel
theorem dX7_opensVariable_15 : decode cX7_opensVariable 15 = .ok (.invokevirtual 99, 3) := by decide +kernel
theorem dX7_opensVariable_18 : decode cX7_opensVariable 18 = .ok (.ifCond .eq 5, 3) := by decide +kernel
theorem dX7_opensVariable_21 : decode cX7_opensVariable 21 = .ok (.iconst 1, 1) := by decide +kernel
theorem dX7_opensVariable_22 : decode cX7_opensVariable 22 = .ok (.ireturn, 1) := by decide +kernel
theorem dX7_opensVariable_23 : decode cX7_opensVariable 23 = .ok (.aload_n 0, 1) := by decide +kernel
theorem dX7_opensVariable_24 : decode cX7_opensVariable 24 = .ok (.ldc_w 279, 3) := by decide +kernel
theorem dX7_opensVariable_27 : decode cX7_opensVariable 27 = .ok (.invokevirtual 99, 3) := by decide +kernel
theorem dX7_opensVariable_30 : decode cX7_opensVariable 30 = .ok (.ifCond .eq 7, 3) := by decide +kernel
theorem dX7_opensVariable_33 : decode cX7_opensVariable 33 = .ok (.iconst 2, 1) := by decide +kernel
theorem dX7_opensVariable_34 : decode cX7_opensVariable 34 = .ok (.goto 4, 3) := by decide +kernel
theorem dX7_opensVariable_37 : decode cX7_opensVariable 37 = .ok (.iconst (-1), 1) := by decide +kernel
theorem dX7_opensVariable_38 : decode cX7_opensVariable 38 = .ok (.ireturn, 1) := by decide +kernel
def f_X7_opensVariable (m : zz_Mem)  : Option Int32 :=
  zz_bndR (f_X7_isWord 26 m) fun r1 =>
  if r1 = 0 then (
  zz_bndR (f_X7_isWord 5 m) fun r2 =>
  if r2 = 0 then (
  zz_bndR (f_X7_isWord 27 m) fun r3 =>
  if r3 = 0 then (
  some (-1 : Int32))
  else (
  some (2 : Int32)))
  else (
  some (1 : Int32)))
  else (
  some (0 : Int32))
theorem k_X7_opensVariable {l : Launch} {G : zz_G} (hN : 107 ≤ zz_N G) : ∀ (m : zz_Mem), zz_Con zz_sh l G mX7_opensVariable 5 [.ref (zz_a G 30)] zz_vIr (zz_mC m) (f_X7_opensVariable m) m := by
  intro m
  refine zz_con (lv := [(0, .ref (zz_a G 30))]) (by decide +kernel) (Nat.le_of_ble_eq_true rfl) rfl ?_
  unfold f_X7_opensVariable
  refine zs_aload_n dX7_opensVariable_0 rfl 0 rfl ?_
  refine zs_ldcwS (w := 26) dX7_opensVariable_1 (by decide +kernel) ?_
  refine zs_cV_iR (rest := []) (k_X7_isWord hN (Nat.le_of_ble_eq_true rfl)  _) dX7_opensVariable_4 lv_X7_99 ok_X7_isWord (zz_rcv_o (sh_30 hN) rfl) (Nat.le_of_ble_eq_true rfl) rfl rfl (Nat.le_of_ble_eq_true rfl) (fun r1 => ?_)
  refine zs_if_eq (tgt := 12) dX7_opensVariable_7 (by decide) ?_ ?_
  · refine zs_aload_n dX7_opensVariable_12 rfl 0 rfl ?_
    refine zs_ldcS (w := 5) dX7_opensVariable_13 (by decide +kernel) ?_
    refine zs_cV_iR (rest := []) (k_X7_isWord hN (Nat.le_of_ble_eq_true rfl)  _) dX7_opensVariable_15 lv_X7_99 ok_X7_isWord (zz_rcv_o (sh_30 hN) rfl) (Nat.le_of_ble_eq_true rfl) rfl rfl (Nat.le_of_ble_eq_true rfl) (fun r2 => ?_)
    refine zs_if_eq (tgt := 23) dX7_opensVariable_18 (by decide) ?_ ?_
    · refine zs_aload_n dX7_opensVariable_23 rfl 0 rfl ?_
      refine zs_ldcwS (w := 27) dX7_opensVariable_24 (by decide +kernel) ?_
      refine zs_cV_iR (rest := []) (k_X7_isWord hN (Nat.le_of_ble_eq_true rfl)  _) dX7_opensVariable_27 lv_X7_99 ok_X7_isWord (zz_rcv_o (sh_30 hN) rfl) (Nat.le_of_ble_eq_true rfl) rfl rfl (Nat.le_of_ble_eq_true rfl) (fun r3 => ?_)
      refine zs_if_eq (tgt := 37) dX7_opensVariable_30 (by decide) ?_ ?_
      · refine zs_iconst (v := (-1 : Int32)) dX7_opensVariable_37 ci_m1 ?_
        exact zs_iret dX7_opensVariable_38 rfl rfl rfl
      · refine zs_iconst (v := (2 : Int32)) dX7_opensVariable_33 ci_2 ?_
        refine zs_goto (tgt := 38) dX7_opensVariable_34 (by decide) ?_
        exact zs_iret dX7_opensVariable_38 rfl rfl rfl
    · refine zs_iconst (v := (1 : Int32)) dX7_opensVariable_21 ci_1 ?_
      exact zs_iret dX7_opensVariable_22 rfl rfl rfl
  · refine zs_iconst (v := (0 : Int32)) dX7_opensVariable_10 ci_0 ?_
    exact zs_iret dX7_opensVariable_11 rfl rfl rfl
/-! X7_readVariable: PillarDesk$Reader.readVariable()V -/
theorem dX7_readVariable_0 : decode cX7_readVariable 0 = .ok (.aload_n 0, 1) := by decide +kernel
theorem dX7_readVariable_1 : decode cX7_readVariable 1 = .ok (.getfield 208, 3) := by decide +kernel
theorem dX7_readVariable_4 : decode cX7_readVariable 4 = .ok (.ifCond .eq 10, 3) := by decide +kernel
theorem dX7_readVariable_7 : decode cX7_readVariable 7 = .ok (.aload_n 0, 1) := by decide +kernel
theorem dX7_readVariable_8 : decode cX7_readVariable 8 = .ok (.invokevirtual 263, 3) := by decide +kernel
theorem dX7_readVariable_11 : decode cX7_readVariable 11 = .ok (.goto 7, 3) := by decide +kernel
theorem dX7_readVariable_14 : decode cX7_readVariable 14 = .ok (.aload_n 0, 1) := by decide +kernel
theorem dX7_readVariable_15 : decode cX7_readVariable 15 = .ok (.invokevirtual 266, 3) := by decide +kernel
theorem dX7_readVariable_18 : decode cX7_readVariable 18 = .ok (.istore_n 1, 1) := by decide +kernel
theorem dX7_readVariable_19 : decode cX7_readVariable 19 = .ok (.iload_n 1, 1) := by decide +kernel
theorem dX7_readVariable_20 : decode cX7_readVariable 20 = .ok (.iconst (-1), 1) := by decide +kernel
theorem dX7_readVariable_21 : decode cX7_readVariable 21 = .ok (.if_icmp .ne 11, 3) := by decide +kernel
theorem dX7_readVariable_24 : decode cX7_readVariable 24 = .ok (.aload_n 0, 1) := by decide +kernel
theorem dX7_readVariable_25 : decode cX7_readVariable 25 = .ok (.iconst 2, 1) := by decide +kernel
theorem dX7_readVariable_26 : decode cX7_readVariable 26 = .ok (.invokevirtual 85, 3) := by decide +kernel
theorem dX7_readVariable_29 : decode cX7_readVariable 29 = .ok (.goto 22, 3) := by decide +kernel
theorem dX7_readVariable_32 : decode cX7_readVariable 32 = .ok (.aload_n 0, 1) := by decide +kernel
theorem dX7_readVariable_33 : decode cX7_readVariable 33 = .ok (.getfield 19, 3) := by decide +kernel
theorem dX7_readVariable_36 : decode cX7_readVariable 36 = .ok (.getfield 212, 3) := by decide +kernel
theorem dX7_readVariable_39 : decode cX7_readVariable 39 = .ok (.sipush 1000, 3) := by decide +kernel
theorem dX7_readVariable_42 : decode cX7_readVariable 42 = .ok (.iload_n 1, 1) := by decide +kernel
theorem dX7_readVariable_43 : decode cX7_readVariable 43 = .ok (.iadd, 1) := by decide +kernel
theorem dX7_readVariable_44 : decode cX7_readVariable 44 = .ok (.invokevirtual 240, 3) := by decide +kernel
theorem dX7_readVariable_47 : decode cX7_readVariable 47 = .ok (.aload_n 0, 1) := by decide +kernel
theorem dX7_readVariable_48 : decode cX7_readVariable 48 = .ok (.invokevirtual 46, 3) := by decide +kernel
theorem dX7_readVariable_51 : decode cX7_readVariable 51 = .ok (.return_, 1) := by decide +kernel
def f_X7_readVariable_18   (s0 : Int32) (m : zz_Mem) : Option zz_Mem :=
  if s0 = (-1 : Int32) then (
  zz_bndR (f_X7_fail (2 : Int32) m) fun m3 =>
  some m3)
  else (
  zz_bndR (f_X3_add ((1000 : Int32) + s0) m) fun m1 =>
  zz_bndR (f_X7_next m1) fun m2 =>
  some m2)
theorem t_X7_readVariable_18 {l : Launch} {G : zz_G} (hN : 107 ≤ zz_N G)  : ∀ (s0 : Int32) (m : zz_Mem), zz_Sim zz_sh l G mX7_readVariable 6 zz_vV zz_mV (f_X7_readVariable_18 s0 m) 18 [(0, .ref (zz_a G 30))] [.int s0] m := by
  intro s0 m
  unfold f_X7_readVariable_18
  refine zs_istore_n [(1, .int s0), (0, .ref (zz_a G 30))] dX7_readVariable_18 rfl (Nat.le_of_ble_eq_true rfl) rfl ?_
  refine zs_iload_n dX7_readVariable_19 rfl 0 rfl ?_
  refine zs_iconst (v := (-1 : Int32)) dX7_readVariable_20 ci_m1 ?_
  refine zs_icmp_ne (tgt := 32) dX7_readVariable_21 (by decide) ?_ ?_
  · refine zs_aload_n dX7_readVariable_32 rfl 1 rfl ?_
    refine zs_getR fl_X7_19 dX7_readVariable_33 (sh_30 hN) rfl ?_
    refine zs_getR fl_X7_212 dX7_readVariable_36 (sh_16 hN) rfl ?_
    refine zs_sipush (v := (1000 : Int32)) dX7_readVariable_39 cs_1000 ?_
    refine zs_iload_n dX7_readVariable_42 rfl 0 rfl ?_
    refine zs_iadd dX7_readVariable_43 ?_
    refine zs_cV_vW (rest := []) (k_X3_add hN _ _) dX7_readVariable_44 lv_X7_240 ok_X3_add (zz_rcv_o (sh_23 hN) rfl) (Nat.le_of_ble_eq_true rfl) rfl rfl (Nat.le_of_ble_eq_true rfl) (fun m1 => ?_)
    refine zs_aload_n dX7_readVariable_47 rfl 1 rfl ?_
    refine zs_cV_vW (rest := []) (k_X7_next hN  _) dX7_readVariable_48 lv_X7_46 ok_X7_next (zz_rcv_o (sh_30 hN) rfl) (Nat.le_of_ble_eq_true rfl) rfl rfl (Nat.le_of_ble_eq_true rfl) (fun m2 => ?_)
    exact zs_vret dX7_readVariable_51 rfl rfl rfl
  · refine zs_aload_n dX7_readVariable_24 rfl 1 rfl ?_
    refine zs_iconst (v := (2 : Int32)) dX7_readVariable_25 ci_2 ?_
    refine zs_cV_vW (rest := []) (k_X7_fail hN _ _) dX7_readVariable_26 lv_X7_85 ok_X7_fail (zz_rcv_o (sh_30 hN) rfl) (Nat.le_of_ble_eq_true rfl) rfl rfl (Nat.le_of_ble_eq_true rfl) (fun m3 => ?_)
    refine zs_goto (tgt := 51) dX7_readVariable_29 (by decide) ?_
    exact zs_vret dX7_readVariable_51 rfl rfl rfl
def f_X7_readVariable   (m : zz_Mem) : Option zz_Mem :=
  if (m.1 30 9) = 0 then (
  zz_bndR (f_X7_opensVariable m) fun r1 =>
  f_X7_readVariable_18 r1 m)
  else (
  zz_bndR (f_X7_ratesVariable m) fun r2 =>
  f_X7_readVariable_18 r2 m)
theorem k_X7_readVariable {l : Launch} {G : zz_G} (hN : 107 ≤ zz_N G) : ∀ (m : zz_Mem), zz_Con zz_sh l G mX7_readVariable 6 [.ref (zz_a G 30)] zz_vV zz_mV (f_X7_readVariable m) m := by
  intro m
  refine zz_con (lv := [(0, .ref (zz_a G 30))]) (by decide +kernel) (Nat.le_of_ble_eq_true rfl) rfl ?_
  unfold f_X7_readVariable
  refine zs_aload_n dX7_readVariable_0 rfl 0 rfl ?_
  refine zs_getI fl_X7_208 dX7_readVariable_1 (sh_30 hN) rfl ?_
  refine zs_if_eq (tgt := 14) dX7_readVariable_4 (by decide) ?_ ?_
  · refine zs_aload_n dX7_readVariable_14 rfl 0 rfl ?_
    refine zs_cV_iR (rest := []) (k_X7_opensVariable hN  _) dX7_readVariable_15 lv_X7_266 ok_X7_opensVariable (zz_rcv_o (sh_30 hN) rfl) (Nat.le_of_ble_eq_true rfl) rfl rfl (Nat.le_of_ble_eq_true rfl) (fun r1 => ?_)
    exact t_X7_readVariable_18 hN _ _
  · refine zs_aload_n dX7_readVariable_7 rfl 0 rfl ?_
    refine zs_cV_iR (rest := []) (k_X7_ratesVariable hN  _) dX7_readVariable_8 lv_X7_263 ok_X7_ratesVariable (zz_rcv_o (sh_30 hN) rfl) (Nat.le_of_ble_eq_true rfl) rfl rfl (Nat.le_of_ble_eq_true rfl) (fun r2 => ?_)
    refine zs_goto (tgt := 18) dX7_readVariable_11 (by decide) ?_
    exact t_X7_readVariable_18 hN _ _
/-! X7_readSum: PillarDesk$Reader.readSum(I)V -/
theorem dX7_readSum_0 : decode cX7_readSum 0 = .ok (.aload_n 0, 1) := by decide +kernel
theorem dX7_readSum_1 : decode cX7_readSum 1 = .ok (.iload_n 1, 1) := by decide +kernel
theorem dX7_readSum_2 : decode cX7_readSum 2 = .ok (.invokevirtual 237, 3) := by decide +kernel
theorem dX7_readSum_5 : decode cX7_readSum 5 = .ok (.iconst 0, 1) := by decide +kernel
theorem dX7_readSum_6 : decode cX7_readSum 6 = .ok (.istore_n 2, 1) := by decide +kernel
theorem dX7_readSum_7 : decode cX7_readSum 7 = .ok (.iload_n 2, 1) := by decide +kernel
theorem dX7_readSum_8 : decode cX7_readSum 8 = .ok (.sipush 900, 3) := by decide +kernel
theorem dX7_readSum_11 : decode cX7_readSum 11 = .ok (.if_icmp .ge 66, 3) := by decide +kernel
theorem dX7_readSum_14 : decode cX7_readSum 14 = .ok (.aload_n 0, 1) := by decide +kernel
theorem dX7_readSum_15 : decode cX7_readSum 15 = .ok (.getfield 52, 3) := by decide +kernel
theorem dX7_readSum_18 : decode cX7_readSum 18 = .ok (.bipush 43, 2) := by decide +kernel
theorem dX7_readSum_20 : decode cX7_readSum 20 = .ok (.if_icmp .eq 12, 3) := by decide +kernel
theorem dX7_readSum_23 : decode cX7_readSum 23 = .ok (.aload_n 0, 1) := by decide +kernel
theorem dX7_readSum_24 : decode cX7_readSum 24 = .ok (.getfield 52, 3) := by decide +kernel
theorem dX7_readSum_27 : decode cX7_readSum 27 = .ok (.bipush 45, 2) := by decide +kernel
theorem dX7_readSum_29 : decode cX7_readSum 29 = .ok (.if_icmp .ne 48, 3) := by decide +kernel
theorem dX7_readSum_32 : decode cX7_readSum 32 = .ok (.aload_n 0, 1) := by decide +kernel
theorem dX7_readSum_33 : decode cX7_readSum 33 = .ok (.getfield 52, 3) := by decide +kernel
theorem dX7_readSum_36 : decode cX7_readSum 36 = .ok (.bipush 43, 2) := by decide +kernel
theorem dX7_readSum_38 : decode cX7_readSum 38 = .ok (.if_icmp .ne 9, 3) := by decide +kernel
theorem dX7_readSum_41 : decode cX7_readSum 41 = .ok (.sipush 2000, 3) := by decide +kernel
theorem dX7_readSum_44 : decode cX7_readSum 44 = .ok (.goto 6, 3) := by decide +kernel
theorem dX7_readSum_47 : decode cX7_readSum 47 = .ok (.sipush 2001, 3) := by decide +kernel
theorem dX7_readSum_50 : decode cX7_readSum 50 = .ok (.istore_n 3, 1) := by decide +kernel
theorem dX7_readSum_51 : decode cX7_readSum 51 = .ok (.aload_n 0, 1) := by decide +kernel
theorem dX7_readSum_52 : decode cX7_readSum 52 = .ok (.invokevirtual 46, 3) := by decide +kernel
theorem dX7_readSum_55 : decode cX7_readSum 55 = .ok (.aload_n 0, 1) := by decide +kernel
theorem dX7_readSum_56 : decode cX7_readSum 56 = .ok (.iload_n 1, 1) := by decide +kernel
theorem dX7_readSum_57 : decode cX7_readSum 57 = .ok (.invokevirtual 237, 3) := by decide +kernel
theorem dX7_readSum_60 : decode cX7_readSum 60 = .ok (.aload_n 0, 1) := by decide +kernel
theorem dX7_readSum_61 : decode cX7_readSum 61 = .ok (.getfield 19, 3) := by decide +kernel
theorem dX7_readSum_64 : decode cX7_readSum 64 = .ok (.getfield 212, 3) := by decide +kernel
theorem dX7_readSum_67 : decode cX7_readSum 67 = .ok (.iload_n 3, 1) := by decide +kernel
theorem dX7_readSum_68 : decode cX7_readSum 68 = .ok (.invokevirtual 240, 3) := by decide +kernel
theorem dX7_readSum_71 : decode cX7_readSum 71 = .ok (.iinc 2 1, 3) := by decide +kernel
theorem dX7_readSum_74 : decode cX7_readSum 74 = .ok (.goto (-67), 3) := by decide +kernel
theorem dX7_readSum_77 : decode cX7_readSum 77 = .ok (.return_, 1) := by decide +kernel
def f_X7_readSum_50 (g : Nat → Int32 → zz_Mem → Option zz_Mem) (k7 : Int32 → Int32 → zz_Mem → Option zz_Mem) (v1 : Int32) (v2 : Int32) (s0 : Int32) (m : zz_Mem) : Option zz_Mem :=
  zz_bndR (f_X7_next m) fun m1 =>
  zz_bndR (g 1 v1 m1) fun m2 =>
  zz_bndR (f_X3_add s0 m2) fun m3 =>
  zz_letI (v2 + (1 : Int32)) fun x4 =>
  k7 v1 x4 m3
theorem t_X7_readSum_50 {l : Launch} {G : zz_G} (hN : 107 ≤ zz_N G) {g : Nat → Int32 → zz_Mem → Option zz_Mem} {d : Nat} (hd0 : 7 ≤ d) (hg1 : ∀ (q1 : Int32) (m : zz_Mem), zz_Con zz_sh l G mX7_readTerm d [.ref (zz_a G 30), .int q1] zz_vV zz_mV (g 1 q1 m) m) {k7 : Int32 → Int32 → zz_Mem → Option zz_Mem} (hk7 : ∀ (v1 : Int32) (v2 : Int32) (m : zz_Mem), zz_Sim zz_sh l G mX7_readSum (d + 1) zz_vV zz_mV (k7 v1 v2 m) 7 [(0, .ref (zz_a G 30)), (1, .int v1), (2, .int v2)] [] m) : ∀ (v1 : Int32) (v2 : Int32) (s0 : Int32) (m : zz_Mem), zz_Sim zz_sh l G mX7_readSum (d + 1) zz_vV zz_mV (f_X7_readSum_50 g k7 v1 v2 s0 m) 50 [(0, .ref (zz_a G 30)), (1, .int v1), (2, .int v2)] [.int s0] m := by
  intro v1 v2 s0 m
  unfold f_X7_readSum_50
  refine zs_istore_n [(3, .int s0), (0, .ref (zz_a G 30)), (1, .int v1), (2, .int v2)] dX7_readSum_50 rfl (Nat.le_of_ble_eq_true rfl) rfl ?_
  refine zs_aload_n dX7_readSum_51 rfl 1 rfl ?_
  refine zs_cV_vW (rest := []) (k_X7_next hN  _) dX7_readSum_52 lv_X7_46 ok_X7_next (zz_rcv_o (sh_30 hN) rfl) (by omega) rfl rfl (Nat.le_of_ble_eq_true rfl) (fun m1 => ?_)
  refine zs_aload_n dX7_readSum_55 rfl 1 rfl ?_
  refine zs_iload_n dX7_readSum_56 rfl 2 rfl ?_
  refine zs_cV_vW (rest := []) (hg1 _ _) dX7_readSum_57 lv_X7_237 ok_X7_readTerm (zz_rcv_o (sh_30 hN) rfl) (Nat.le_refl _) rfl rfl (Nat.le_of_ble_eq_true rfl) (fun m2 => ?_)
  refine zs_aload_n dX7_readSum_60 rfl 1 rfl ?_
  refine zs_getR fl_X7_19 dX7_readSum_61 (sh_30 hN) rfl ?_
  refine zs_getR fl_X7_212 dX7_readSum_64 (sh_16 hN) rfl ?_
  refine zs_iload_n dX7_readSum_67 rfl 0 rfl ?_
  refine zs_cV_vW (rest := []) (k_X3_add hN _ _) dX7_readSum_68 lv_X7_240 ok_X3_add (zz_rcv_o (sh_23 hN) rfl) (by omega) rfl rfl (Nat.le_of_ble_eq_true rfl) (fun m3 => ?_)
  refine zs_iinc (fun y => [(2, .int y), (3, .int s0), (0, .ref (zz_a G 30)), (1, .int v1)]) dX7_readSum_71 3 rfl ci_1 (Nat.le_of_ble_eq_true rfl) (fun _ => rfl) (fun x4 => ?_)
  refine zs_goto (tgt := 7) dX7_readSum_74 (by decide) ?_
  refine zs_sub [2, 3, 0] rfl ?_
  exact hk7 _ _ _
def f_X7_readSum_32 (g : Nat → Int32 → zz_Mem → Option zz_Mem) (k7 : Int32 → Int32 → zz_Mem → Option zz_Mem) (v1 : Int32) (v2 : Int32) (m : zz_Mem) : Option zz_Mem :=
  if (m.1 30 4) = (43 : Int32) then (
  f_X7_readSum_50 g k7 v1 v2 (2000 : Int32) m)
  else (
  f_X7_readSum_50 g k7 v1 v2 (2001 : Int32) m)
theorem t_X7_readSum_32 {l : Launch} {G : zz_G} (hN : 107 ≤ zz_N G) {g : Nat → Int32 → zz_Mem → Option zz_Mem} {d : Nat} (hd0 : 7 ≤ d) (hg1 : ∀ (q1 : Int32) (m : zz_Mem), zz_Con zz_sh l G mX7_readTerm d [.ref (zz_a G 30), .int q1] zz_vV zz_mV (g 1 q1 m) m) {k7 : Int32 → Int32 → zz_Mem → Option zz_Mem} (hk7 : ∀ (v1 : Int32) (v2 : Int32) (m : zz_Mem), zz_Sim zz_sh l G mX7_readSum (d + 1) zz_vV zz_mV (k7 v1 v2 m) 7 [(0, .ref (zz_a G 30)), (1, .int v1), (2, .int v2)] [] m) : ∀ (v1 : Int32) (v2 : Int32) (m : zz_Mem), zz_Sim zz_sh l G mX7_readSum (d + 1) zz_vV zz_mV (f_X7_readSum_32 g k7 v1 v2 m) 32 [(0, .ref (zz_a G 30)), (1, .int v1), (2, .int v2)] [] m := by
  intro v1 v2 m
  unfold f_X7_readSum_32
  refine zs_aload_n dX7_readSum_32 rfl 0 rfl ?_
  refine zs_getI fl_X7_52 dX7_readSum_33 (sh_30 hN) rfl ?_
  refine zs_bipush (v := (43 : Int32)) dX7_readSum_36 cb_43 ?_
  refine zs_icmp_ne (tgt := 47) dX7_readSum_38 (by decide) ?_ ?_
  · refine zs_sipush (v := (2001 : Int32)) dX7_readSum_47 cs_2001 ?_
    exact t_X7_readSum_50 hN hd0 hg1 hk7 _ _ _ _
  · refine zs_sipush (v := (2000 : Int32)) dX7_readSum_41 cs_2000 ?_
    refine zs_goto (tgt := 50) dX7_readSum_44 (by decide) ?_
    exact t_X7_readSum_50 hN hd0 hg1 hk7 _ _ _ _
def f_X7_readSum_7 (g : Nat → Int32 → zz_Mem → Option zz_Mem)  : Nat → Int32 → Int32 → zz_Mem → Option zz_Mem
  | 0, _, _, _ => none
  | n + 1, v1, v2, m =>
  if (900 : Int32) ≤ v2 then (
  some m)
  else (
  if (m.1 30 4) = (43 : Int32) then (
  f_X7_readSum_32 g (f_X7_readSum_7 g n) v1 v2 m)
  else (
  if (m.1 30 4) = (45 : Int32) then (
  f_X7_readSum_32 g (f_X7_readSum_7 g n) v1 v2 m)
  else (
  some m)))
theorem t_X7_readSum_7 {l : Launch} {G : zz_G} (hN : 107 ≤ zz_N G) {g : Nat → Int32 → zz_Mem → Option zz_Mem} {d : Nat} (hd0 : 7 ≤ d) (hg1 : ∀ (q1 : Int32) (m : zz_Mem), zz_Con zz_sh l G mX7_readTerm d [.ref (zz_a G 30), .int q1] zz_vV zz_mV (g 1 q1 m) m)  : ∀ (n : Nat) (v1 : Int32) (v2 : Int32) (m : zz_Mem), zz_Sim zz_sh l G mX7_readSum (d + 1) zz_vV zz_mV (f_X7_readSum_7 g n v1 v2 m) 7 [(0, .ref (zz_a G 30)), (1, .int v1), (2, .int v2)] [] m := by
  intro n
  induction n with
  | zero => intro _ _ _; exact zs_none
  | succ n ih =>
    intro v1 v2 m
    rw [f_X7_readSum_7]
    refine zs_iload_n dX7_readSum_7 rfl 2 rfl ?_
    refine zs_sipush (v := (900 : Int32)) dX7_readSum_8 cs_900 ?_
    refine zs_icmp_ge (tgt := 77) dX7_readSum_11 (by decide) ?_ ?_
    · exact zs_vret dX7_readSum_77 rfl rfl rfl
    · refine zs_aload_n dX7_readSum_14 rfl 0 rfl ?_
      refine zs_getI fl_X7_52 dX7_readSum_15 (sh_30 hN) rfl ?_
      refine zs_bipush (v := (43 : Int32)) dX7_readSum_18 cb_43 ?_
      refine zs_icmp_eq (tgt := 32) dX7_readSum_20 (by decide) ?_ ?_
      · exact t_X7_readSum_32 hN hd0 hg1 ih _ _ _
      · refine zs_aload_n dX7_readSum_23 rfl 0 rfl ?_
        refine zs_getI fl_X7_52 dX7_readSum_24 (sh_30 hN) rfl ?_
        refine zs_bipush (v := (45 : Int32)) dX7_readSum_27 cb_45 ?_
        refine zs_icmp_ne (tgt := 77) dX7_readSum_29 (by decide) ?_ ?_
        · exact zs_vret dX7_readSum_77 rfl rfl rfl
        · exact t_X7_readSum_32 hN hd0 hg1 ih _ _ _
def f_X7_readSum (g : Nat → Int32 → zz_Mem → Option zz_Mem) (p1 : Int32) (m : zz_Mem) : Option zz_Mem :=
  zz_bndR (g 1 p1 m) fun m1 =>
  f_X7_readSum_7 g zz_fuel p1 (0 : Int32) m1
theorem k_X7_readSum {l : Launch} {G : zz_G} (hN : 107 ≤ zz_N G) {g : Nat → Int32 → zz_Mem → Option zz_Mem} {d : Nat} (hd0 : 7 ≤ d) (hg1 : ∀ (q1 : Int32) (m : zz_Mem), zz_Con zz_sh l G mX7_readTerm d [.ref (zz_a G 30), .int q1] zz_vV zz_mV (g 1 q1 m) m) : ∀ (p1 : Int32) (m : zz_Mem), zz_Con zz_sh l G mX7_readSum (d + 1) [.ref (zz_a G 30), .int p1] zz_vV zz_mV (f_X7_readSum g p1 m) m := by
  intro p1 m
  refine zz_con (lv := [(0, .ref (zz_a G 30)), (1, .int p1)]) (by decide +kernel) (Nat.le_of_ble_eq_true rfl) rfl ?_
  unfold f_X7_readSum
  refine zs_aload_n dX7_readSum_0 rfl 0 rfl ?_
  refine zs_iload_n dX7_readSum_1 rfl 1 rfl ?_
  refine zs_cV_vW (rest := []) (hg1 _ _) dX7_readSum_2 lv_X7_237 ok_X7_readTerm (zz_rcv_o (sh_30 hN) rfl) (Nat.le_refl _) rfl rfl (Nat.le_of_ble_eq_true rfl) (fun m1 => ?_)
  refine zs_iconst (v := (0 : Int32)) dX7_readSum_5 ci_0 ?_
  refine zs_istore_n [(2, .int (0 : Int32)), (0, .ref (zz_a G 30)), (1, .int p1)] dX7_readSum_6 rfl (Nat.le_of_ble_eq_true rfl) rfl ?_
  refine zs_sub [1, 2, 0] rfl ?_
  exact t_X7_readSum_7 hN hd0 hg1 zz_fuel _ _ _
/-! X7_readTerm: PillarDesk$Reader.readTerm(I)V -/
theorem dX7_readTerm_0 : decode cX7_readTerm 0 = .ok (.aload_n 0, 1) := by decide +kernel
theorem dX7_readTerm_1 : decode cX7_readTerm 1 = .ok (.iload_n 1, 1) := by decide +kernel
theorem dX7_readTerm_2 : decode cX7_readTerm 2 = .ok (.invokevirtual 243, 3) := by decide +kernel
theorem dX7_readTerm_5 : decode cX7_readTerm 5 = .ok (.iconst 0, 1) := by decide +kernel
theorem dX7_readTerm_6 : decode cX7_readTerm 6 = .ok (.istore_n 2, 1) := by decide +kernel
theorem dX7_readTerm_7 : decode cX7_readTerm 7 = .ok (.iload_n 2, 1) := by decide +kernel
theorem dX7_readTerm_8 : decode cX7_readTerm 8 = .ok (.sipush 900, 3) := by decide +kernel
theorem dX7_readTerm_11 : decode cX7_readTerm 11 = .ok (.if_icmp .ge 40, 3) := by decide +kernel
theorem dX7_readTerm_14 : decode cX7_readTerm 14 = .ok (.aload_n 0, 1) := by decide +kernel
theorem dX7_readTerm_15 : decode cX7_readTerm 15 = .ok (.getfield 52, 3) := by decide +kernel
theorem dX7_readTerm_18 : decode cX7_readTerm 18 = .ok (.bipush 42, 2) := by decide +kernel
theorem dX7_readTerm_20 : decode cX7_readTerm 20 = .ok (.if_icmp .ne 31, 3) := by decide +kernel
theorem dX7_readTerm_23 : decode cX7_readTerm 23 = .ok (.aload_n 0, 1) := by decide +kernel
theorem dX7_readTerm_24 : decode cX7_readTerm 24 = .ok (.invokevirtual 46, 3) := by decide +kernel
theorem dX7_readTerm_27 : decode cX7_readTerm 27 = .ok (.aload_n 0, 1) := by decide +kernel
theorem dX7_readTerm_28 : decode cX7_readTerm 28 = .ok (.iload_n 1, 1) := by decide +kernel
theorem dX7_readTerm_29 : decode cX7_readTerm 29 = .ok (.invokevirtual 243, 3) := by decide +kernel
theorem dX7_readTerm_32 : decode cX7_readTerm 32 = .ok (.aload_n 0, 1) := by decide +kernel
theorem dX7_readTerm_33 : decode cX7_readTerm 33 = .ok (.getfield 19, 3) := by decide +kernel
theorem dX7_readTerm_36 : decode cX7_readTerm 36 = .ok (.getfield 212, 3) := by decide +kernel
theorem dX7_readTerm_39 : decode cX7_readTerm 39 = .ok (.sipush 2002, 3) := by decide +kernel
theorem dX7_readTerm_42 : decode cX7_readTerm 42 = .ok (.invokevirtual 240, 3) := by decide +kernel
theorem dX7_readTerm_45 : decode cX7_readTerm 45 = .ok (.iinc 2 1, 3) := by decide +kernel
theorem dX7_readTerm_48 : decode cX7_readTerm 48 = .ok (.goto (-41), 3) := by decide +kernel
theorem dX7_readTerm_51 : decode cX7_readTerm 51 = .ok (.return_, 1) := by decide +kernel
def f_X7_readTerm_7 (g : Nat → Int32 → zz_Mem → Option zz_Mem)  : Nat → Int32 → Int32 → zz_Mem → Option zz_Mem
  | 0, _, _, _ => none
  | n + 1, v1, v2, m =>
  if (900 : Int32) ≤ v2 then (
  some m)
  else (
  if (m.1 30 4) = (42 : Int32) then (
  zz_bndR (f_X7_next m) fun m1 =>
  zz_bndR (g 2 v1 m1) fun m2 =>
  zz_bndR (f_X3_add (2002 : Int32) m2) fun m3 =>
  zz_letI (v2 + (1 : Int32)) fun x4 =>
  f_X7_readTerm_7 g n v1 x4 m3)
  else (
  some m))
theorem t_X7_readTerm_7 {l : Launch} {G : zz_G} (hN : 107 ≤ zz_N G) {g : Nat → Int32 → zz_Mem → Option zz_Mem} {d : Nat} (hd0 : 7 ≤ d) (hg2 : ∀ (q1 : Int32) (m : zz_Mem), zz_Con zz_sh l G mX7_readAtom d [.ref (zz_a G 30), .int q1] zz_vV zz_mV (g 2 q1 m) m)  : ∀ (n : Nat) (v1 : Int32) (v2 : Int32) (m : zz_Mem), zz_Sim zz_sh l G mX7_readTerm (d + 1) zz_vV zz_mV (f_X7_readTerm_7 g n v1 v2 m) 7 [(0, .ref (zz_a G 30)), (1, .int v1), (2, .int v2)] [] m := by
  intro n
  induction n with
  | zero => intro _ _ _; exact zs_none
  | succ n ih =>
    intro v1 v2 m
    rw [f_X7_readTerm_7]
    refine zs_iload_n dX7_readTerm_7 rfl 2 rfl ?_
    refine zs_sipush (v := (900 : Int32)) dX7_readTerm_8 cs_900 ?_
    refine zs_icmp_ge (tgt := 51) dX7_readTerm_11 (by decide) ?_ ?_
    · exact zs_vret dX7_readTerm_51 rfl rfl rfl
    · refine zs_aload_n dX7_readTerm_14 rfl 0 rfl ?_
      refine zs_getI fl_X7_52 dX7_readTerm_15 (sh_30 hN) rfl ?_
      refine zs_bipush (v := (42 : Int32)) dX7_readTerm_18 cb_42 ?_
      refine zs_icmp_ne (tgt := 51) dX7_readTerm_20 (by decide) ?_ ?_
      · exact zs_vret dX7_readTerm_51 rfl rfl rfl
      · refine zs_aload_n dX7_readTerm_23 rfl 0 rfl ?_
        refine zs_cV_vW (rest := []) (k_X7_next hN  _) dX7_readTerm_24 lv_X7_46 ok_X7_next (zz_rcv_o (sh_30 hN) rfl) (by omega) rfl rfl (Nat.le_of_ble_eq_true rfl) (fun m1 => ?_)
        refine zs_aload_n dX7_readTerm_27 rfl 0 rfl ?_
        refine zs_iload_n dX7_readTerm_28 rfl 1 rfl ?_
        refine zs_cV_vW (rest := []) (hg2 _ _) dX7_readTerm_29 lv_X7_243 ok_X7_readAtom (zz_rcv_o (sh_30 hN) rfl) (Nat.le_refl _) rfl rfl (Nat.le_of_ble_eq_true rfl) (fun m2 => ?_)
        refine zs_aload_n dX7_readTerm_32 rfl 0 rfl ?_
        refine zs_getR fl_X7_19 dX7_readTerm_33 (sh_30 hN) rfl ?_
        refine zs_getR fl_X7_212 dX7_readTerm_36 (sh_16 hN) rfl ?_
        refine zs_sipush (v := (2002 : Int32)) dX7_readTerm_39 cs_2002 ?_
        refine zs_cV_vW (rest := []) (k_X3_add hN _ _) dX7_readTerm_42 lv_X7_240 ok_X3_add (zz_rcv_o (sh_23 hN) rfl) (by omega) rfl rfl (Nat.le_of_ble_eq_true rfl) (fun m3 => ?_)
        refine zs_iinc (fun y => [(2, .int y), (0, .ref (zz_a G 30)), (1, .int v1)]) dX7_readTerm_45 2 rfl ci_1 (Nat.le_of_ble_eq_true rfl) (fun _ => rfl) (fun x4 => ?_)
        refine zs_goto (tgt := 7) dX7_readTerm_48 (by decide) ?_
        refine zs_sub [1, 2, 0] rfl ?_
        exact ih _ _ _
def f_X7_readTerm (g : Nat → Int32 → zz_Mem → Option zz_Mem) (p1 : Int32) (m : zz_Mem) : Option zz_Mem :=
  zz_bndR (g 2 p1 m) fun m1 =>
  f_X7_readTerm_7 g zz_fuel p1 (0 : Int32) m1
theorem k_X7_readTerm {l : Launch} {G : zz_G} (hN : 107 ≤ zz_N G) {g : Nat → Int32 → zz_Mem → Option zz_Mem} {d : Nat} (hd0 : 7 ≤ d) (hg2 : ∀ (q1 : Int32) (m : zz_Mem), zz_Con zz_sh l G mX7_readAtom d [.ref (zz_a G 30), .int q1] zz_vV zz_mV (g 2 q1 m) m) : ∀ (p1 : Int32) (m : zz_Mem), zz_Con zz_sh l G mX7_readTerm (d + 1) [.ref (zz_a G 30), .int p1] zz_vV zz_mV (f_X7_readTerm g p1 m) m := by
  intro p1 m
  refine zz_con (lv := [(0, .ref (zz_a G 30)), (1, .int p1)]) (by decide +kernel) (Nat.le_of_ble_eq_true rfl) rfl ?_
  unfold f_X7_readTerm
  refine zs_aload_n dX7_readTerm_0 rfl 0 rfl ?_
  refine zs_iload_n dX7_readTerm_1 rfl 1 rfl ?_
  refine zs_cV_vW (rest := []) (hg2 _ _) dX7_readTerm_2 lv_X7_243 ok_X7_readAtom (zz_rcv_o (sh_30 hN) rfl) (Nat.le_refl _) rfl rfl (Nat.le_of_ble_eq_true rfl) (fun m1 => ?_)
  refine zs_iconst (v := (0 : Int32)) dX7_readTerm_5 ci_0 ?_
  refine zs_istore_n [(2, .int (0 : Int32)), (0, .ref (zz_a G 30)), (1, .int p1)] dX7_readTerm_6 rfl (Nat.le_of_ble_eq_true rfl) rfl ?_
  refine zs_sub [1, 2, 0] rfl ?_
  exact t_X7_readTerm_7 hN hd0 hg2 zz_fuel _ _ _
/-! X7_readAtom: PillarDesk$Reader.readAtom(I)V -/
theorem dX7_readAtom_0 : decode cX7_readAtom 0 = .ok (.aload_n 0, 1) := by decide +kernel
theorem dX7_readAtom_1 : decode cX7_readAtom 1 = .ok (.getfield 52, 3) := by decide +kernel
theorem dX7_readAtom_4 : decode cX7_readAtom 4 = .ok (.iconst 2, 1) := by decide +kernel
theorem dX7_readAtom_5 : decode cX7_readAtom 5 = .ok (.if_icmp .ne 24, 3) := by decide +kernel
theorem dX7_readAtom_8 : decode cX7_readAtom 8 = .ok (.aload_n 0, 1) := by decide +kernel
theorem dX7_readAtom_9 : decode cX7_readAtom 9 = .ok (.getfield 19, 3) := by decide +kernel
theorem dX7_readAtom_12 : decode cX7_readAtom 12 = .ok (.getfield 212, 3) := by decide +kernel
theorem dX7_readAtom_15 : decode cX7_readAtom 15 = .ok (.aload_n 0, 1) := by decide +kernel
theorem dX7_readAtom_16 : decode cX7_readAtom 16 = .ok (.getfield 89, 3) := by decide +kernel
theorem dX7_readAtom_19 : decode cX7_readAtom 19 = .ok (.invokevirtual 240, 3) := by decide +kernel
theorem dX7_readAtom_22 : decode cX7_readAtom 22 = .ok (.aload_n 0, 1) := by decide +kernel
theorem dX7_readAtom_23 : decode cX7_readAtom 23 = .ok (.invokevirtual 46, 3) := by decide +kernel
theorem dX7_readAtom_26 : decode cX7_readAtom 26 = .ok (.goto 77, 3) := by decide +kernel
theorem dX7_readAtom_29 : decode cX7_readAtom 29 = .ok (.aload_n 0, 1) := by decide +kernel
theorem dX7_readAtom_30 : decode cX7_readAtom 30 = .ok (.getfield 52, 3) := by decide +kernel
theorem dX7_readAtom_33 : decode cX7_readAtom 33 = .ok (.bipush 40, 2) := by decide +kernel
theorem dX7_readAtom_35 : decode cX7_readAtom 35 = .ok (.if_icmp .ne 32, 3) := by decide +kernel
theorem dX7_readAtom_38 : decode cX7_readAtom 38 = .ok (.aload_n 0, 1) := by decide +kernel
theorem dX7_readAtom_39 : decode cX7_readAtom 39 = .ok (.iload_n 1, 1) := by decide +kernel
theorem dX7_readAtom_40 : decode cX7_readAtom 40 = .ok (.invokevirtual 246, 3) := by decide +kernel
theorem dX7_readAtom_43 : decode cX7_readAtom 43 = .ok (.aload_n 0, 1) := by decide +kernel
theorem dX7_readAtom_44 : decode cX7_readAtom 44 = .ok (.getfield 52, 3) := by decide +kernel
theorem dX7_readAtom_47 : decode cX7_readAtom 47 = .ok (.iconst 3, 1) := by decide +kernel
theorem dX7_readAtom_48 : decode cX7_readAtom 48 = .ok (.if_icmp .eq 55, 3) := by decide +kernel
theorem dX7_readAtom_51 : decode cX7_readAtom 51 = .ok (.aload_n 0, 1) := by decide +kernel
theorem dX7_readAtom_52 : decode cX7_readAtom 52 = .ok (.iload_n 1, 1) := by decide +kernel
theorem dX7_readAtom_53 : decode cX7_readAtom 53 = .ok (.iconst 1, 1) := by decide +kernel
theorem dX7_readAtom_54 : decode cX7_readAtom 54 = .ok (.iadd, 1) := by decide +kernel
theorem dX7_readAtom_55 : decode cX7_readAtom 55 = .ok (.invokevirtual 222, 3) := by decide +kernel
theorem dX7_readAtom_58 : decode cX7_readAtom 58 = .ok (.aload_n 0, 1) := by decide +kernel
theorem dX7_readAtom_59 : decode cX7_readAtom 59 = .ok (.bipush 41, 2) := by decide +kernel
theorem dX7_readAtom_61 : decode cX7_readAtom 61 = .ok (.invokevirtual 131, 3) := by decide +kernel
theorem dX7_readAtom_64 : decode cX7_readAtom 64 = .ok (.goto 39, 3) := by decide +kernel
theorem dX7_readAtom_67 : decode cX7_readAtom 67 = .ok (.aload_n 0, 1) := by decide +kernel
theorem dX7_readAtom_68 : decode cX7_readAtom 68 = .ok (.ldc 249, 2) := by decide +kernel
theorem dX7_readAtom_70 : decode cX7_readAtom 70 = .ok (.invokevirtual 99, 3) := by decide +kernel
theorem dX7_readAtom_73 : decode cX7_readAtom 73 = .ok (.ifCond .eq 26, 3) := by decide +kernel
theorem dX7_readAtom_76 : decode cX7_readAtom 76 = .ok (.aload_n 0, 1) := by decide +kernel
theorem dX7_readAtom_77 : decode cX7_readAtom 77 = .ok (.iload_n 1, 1) := by decide +kernel
theorem dX7_readAtom_78 : decode cX7_readAtom 78 = .ok (.invokevirtual 246, 3) := by decide +kernel
theorem dX7_readAtom_81 : decode cX7_readAtom 81 = .ok (.aload_n 0, 1) := by decide +kernel
theorem dX7_readAtom_82 : decode cX7_readAtom 82 = .ok (.getfield 52, 3) := by decide +kernel
theorem dX7_readAtom_85 : decode cX7_readAtom 85 = .ok (.iconst 3, 1) := by decide +kernel
theorem dX7_readAtom_86 : decode cX7_readAtom 86 = .ok (.if_icmp .eq 17, 3) := by decide +kernel
theorem dX7_readAtom_89 : decode cX7_readAtom 89 = .ok (.aload_n 0, 1) := by decide +kernel
theorem dX7_readAtom_90 : decode cX7_readAtom 90 = .ok (.iload_n 1, 1) := by decide +kernel
theorem dX7_readAtom_91 : decode cX7_readAtom 91 = .ok (.iconst 1, 1) := by decide +kernel
theorem dX7_readAtom_92 : decode cX7_readAtom 92 = .ok (.iadd, 1) := by decide +kernel
theorem dX7_readAtom_93 : decode cX7_readAtom 93 = .ok (.invokevirtual 251, 3) := by decide +kernel
theorem dX7_readAtom_96 : decode cX7_readAtom 96 = .ok (.goto 7, 3) := by decide +kernel
theorem dX7_readAtom_99 : decode cX7_readAtom 99 = .ok (.aload_n 0, 1) := by decide +kernel
theorem dX7_readAtom_100 : decode cX7_readAtom 100 = .ok (.invokevirtual 254, 3) := by decide +kernel
theorem dX7_readAtom_103 : decode cX7_readAtom 103 = .ok (.return_, 1) := by decide +kernel
def f_X7_readAtom (g : Nat → Int32 → zz_Mem → Option zz_Mem) (p1 : Int32) (m : zz_Mem) : Option zz_Mem :=
  if (m.1 30 4) = (2 : Int32) then (
  zz_bndR (f_X3_add (m.1 30 6) m) fun m8 =>
  zz_bndR (f_X7_next m8) fun m9 =>
  some m9)
  else (
  if (m.1 30 4) = (40 : Int32) then (
  zz_bndR (f_X7_goDeeper p1 m) fun m5 =>
  if (m5.1 30 4) = (3 : Int32) then (
  some m5)
  else (
  zz_bndR (g 0 (p1 + (1 : Int32)) m5) fun m6 =>
  zz_bndR (f_X7_takeSign (41 : Int32) m6) fun m7 =>
  some m7))
  else (
  zz_bndR (f_X7_isWord 15 m) fun r1 =>
  if r1 = 0 then (
  zz_bndR (f_X7_readVariable m) fun m2 =>
  some m2)
  else (
  zz_bndR (f_X7_goDeeper p1 m) fun m3 =>
  if (m3.1 30 4) = (3 : Int32) then (
  some m3)
  else (
  zz_bndR (g 3 (p1 + (1 : Int32)) m3) fun m4 =>
  some m4))))
theorem k_X7_readAtom {l : Launch} {G : zz_G} (hN : 107 ≤ zz_N G) {g : Nat → Int32 → zz_Mem → Option zz_Mem} {d : Nat} (hd0 : 7 ≤ d) (hg0 : ∀ (q1 : Int32) (m : zz_Mem), zz_Con zz_sh l G mX7_readSum d [.ref (zz_a G 30), .int q1] zz_vV zz_mV (g 0 q1 m) m) (hg3 : ∀ (q1 : Int32) (m : zz_Mem), zz_Con zz_sh l G mX7_readChoice d [.ref (zz_a G 30), .int q1] zz_vV zz_mV (g 3 q1 m) m) : ∀ (p1 : Int32) (m : zz_Mem), zz_Con zz_sh l G mX7_readAtom (d + 1) [.ref (zz_a G 30), .int p1] zz_vV zz_mV (f_X7_readAtom g p1 m) m := by
  intro p1 m
  refine zz_con (lv := [(0, .ref (zz_a G 30)), (1, .int p1)]) (by decide +kernel) (Nat.le_of_ble_eq_true rfl) rfl ?_
  unfold f_X7_readAtom
  refine zs_aload_n dX7_readAtom_0 rfl 0 rfl ?_
  refine zs_getI fl_X7_52 dX7_readAtom_1 (sh_30 hN) rfl ?_
  refine zs_iconst (v := (2 : Int32)) dX7_readAtom_4 ci_2 ?_
  refine zs_icmp_ne (tgt := 29) dX7_readAtom_5 (by decide) ?_ ?_
  · refine zs_aload_n dX7_readAtom_29 rfl 0 rfl ?_
    refine zs_getI fl_X7_52 dX7_readAtom_30 (sh_30 hN) rfl ?_
    refine zs_bipush (v := (40 : Int32)) dX7_readAtom_33 cb_40 ?_
    refine zs_icmp_ne (tgt := 67) dX7_readAtom_35 (by decide) ?_ ?_
    · refine zs_aload_n dX7_readAtom_67 rfl 0 rfl ?_
      refine zs_ldcS (w := 15) dX7_readAtom_68 (by decide +kernel) ?_
      refine zs_cV_iR (rest := []) (k_X7_isWord hN (Nat.le_of_ble_eq_true rfl)  _) dX7_readAtom_70 lv_X7_99 ok_X7_isWord (zz_rcv_o (sh_30 hN) rfl) (by omega) rfl rfl (Nat.le_of_ble_eq_true rfl) (fun r1 => ?_)
      refine zs_if_eq (tgt := 99) dX7_readAtom_73 (by decide) ?_ ?_
      · refine zs_aload_n dX7_readAtom_99 rfl 0 rfl ?_
        refine zs_cV_vW (rest := []) (k_X7_readVariable hN  _) dX7_readAtom_100 lv_X7_254 ok_X7_readVariable (zz_rcv_o (sh_30 hN) rfl) (by omega) rfl rfl (Nat.le_of_ble_eq_true rfl) (fun m2 => ?_)
        exact zs_vret dX7_readAtom_103 rfl rfl rfl
      · refine zs_aload_n dX7_readAtom_76 rfl 0 rfl ?_
        refine zs_iload_n dX7_readAtom_77 rfl 1 rfl ?_
        refine zs_cV_vW (rest := []) (k_X7_goDeeper hN _ _) dX7_readAtom_78 lv_X7_246 ok_X7_goDeeper (zz_rcv_o (sh_30 hN) rfl) (by omega) rfl rfl (Nat.le_of_ble_eq_true rfl) (fun m3 => ?_)
        refine zs_aload_n dX7_readAtom_81 rfl 0 rfl ?_
        refine zs_getI fl_X7_52 dX7_readAtom_82 (sh_30 hN) rfl ?_
        refine zs_iconst (v := (3 : Int32)) dX7_readAtom_85 ci_3 ?_
        refine zs_icmp_eq (tgt := 103) dX7_readAtom_86 (by decide) ?_ ?_
        · exact zs_vret dX7_readAtom_103 rfl rfl rfl
        · refine zs_aload_n dX7_readAtom_89 rfl 0 rfl ?_
          refine zs_iload_n dX7_readAtom_90 rfl 1 rfl ?_
          refine zs_iconst (v := (1 : Int32)) dX7_readAtom_91 ci_1 ?_
          refine zs_iadd dX7_readAtom_92 ?_
          refine zs_cV_vW (rest := []) (hg3 _ _) dX7_readAtom_93 lv_X7_251 ok_X7_readChoice (zz_rcv_o (sh_30 hN) rfl) (Nat.le_refl _) rfl rfl (Nat.le_of_ble_eq_true rfl) (fun m4 => ?_)
          refine zs_goto (tgt := 103) dX7_readAtom_96 (by decide) ?_
          exact zs_vret dX7_readAtom_103 rfl rfl rfl
    · refine zs_aload_n dX7_readAtom_38 rfl 0 rfl ?_
      refine zs_iload_n dX7_readAtom_39 rfl 1 rfl ?_
      refine zs_cV_vW (rest := []) (k_X7_goDeeper hN _ _) dX7_readAtom_40 lv_X7_246 ok_X7_goDeeper (zz_rcv_o (sh_30 hN) rfl) (by omega) rfl rfl (Nat.le_of_ble_eq_true rfl) (fun m5 => ?_)
      refine zs_aload_n dX7_readAtom_43 rfl 0 rfl ?_
      refine zs_getI fl_X7_52 dX7_readAtom_44 (sh_30 hN) rfl ?_
      refine zs_iconst (v := (3 : Int32)) dX7_readAtom_47 ci_3 ?_
      refine zs_icmp_eq (tgt := 103) dX7_readAtom_48 (by decide) ?_ ?_
      · exact zs_vret dX7_readAtom_103 rfl rfl rfl
      · refine zs_aload_n dX7_readAtom_51 rfl 0 rfl ?_
        refine zs_iload_n dX7_readAtom_52 rfl 1 rfl ?_
        refine zs_iconst (v := (1 : Int32)) dX7_readAtom_53 ci_1 ?_
        refine zs_iadd dX7_readAtom_54 ?_
        refine zs_cV_vW (rest := []) (hg0 _ _) dX7_readAtom_55 lv_X7_222 ok_X7_readSum (zz_rcv_o (sh_30 hN) rfl) (Nat.le_refl _) rfl rfl (Nat.le_of_ble_eq_true rfl) (fun m6 => ?_)
        refine zs_aload_n dX7_readAtom_58 rfl 0 rfl ?_
        refine zs_bipush (v := (41 : Int32)) dX7_readAtom_59 cb_41 ?_
        refine zs_cV_vW (rest := []) (k_X7_takeSign hN _ _) dX7_readAtom_61 lv_X7_131 ok_X7_takeSign (zz_rcv_o (sh_30 hN) rfl) (by omega) rfl rfl (Nat.le_of_ble_eq_true rfl) (fun m7 => ?_)
        refine zs_goto (tgt := 103) dX7_readAtom_64 (by decide) ?_
        exact zs_vret dX7_readAtom_103 rfl rfl rfl
  · refine zs_aload_n dX7_readAtom_8 rfl 0 rfl ?_
    refine zs_getR fl_X7_19 dX7_readAtom_9 (sh_30 hN) rfl ?_
    refine zs_getR fl_X7_212 dX7_readAtom_12 (sh_16 hN) rfl ?_
    refine zs_aload_n dX7_readAtom_15 rfl 0 rfl ?_
    refine zs_getI fl_X7_89 dX7_readAtom_16 (sh_30 hN) rfl ?_
    refine zs_cV_vW (rest := []) (k_X3_add hN _ _) dX7_readAtom_19 lv_X7_240 ok_X3_add (zz_rcv_o (sh_23 hN) rfl) (by omega) rfl rfl (Nat.le_of_ble_eq_true rfl) (fun m8 => ?_)
    refine zs_aload_n dX7_readAtom_22 rfl 0 rfl ?_
    refine zs_cV_vW (rest := []) (k_X7_next hN  _) dX7_readAtom_23 lv_X7_46 ok_X7_next (zz_rcv_o (sh_30 hN) rfl) (by omega) rfl rfl (Nat.le_of_ble_eq_true rfl) (fun m9 => ?_)
    refine zs_goto (tgt := 103) dX7_readAtom_26 (by decide) ?_
    exact zs_vret dX7_readAtom_103 rfl rfl rfl
/-! X7_readChoice: PillarDesk$Reader.readChoice(I)V -/
theorem dX7_readChoice_0 : decode cX7_readChoice 0 = .ok (.aload_n 0, 1) := by decide +kernel
theorem dX7_readChoice_1 : decode cX7_readChoice 1 = .ok (.iload_n 1, 1) := by decide +kernel
theorem dX7_readChoice_2 : decode cX7_readChoice 2 = .ok (.invokevirtual 231, 3) := by decide +kernel
theorem dX7_readChoice_5 : decode cX7_readChoice 5 = .ok (.aload_n 0, 1) := by decide +kernel
theorem dX7_readChoice_6 : decode cX7_readChoice 6 = .ok (.ldc_w 257, 3) := by decide +kernel
theorem dX7_readChoice_9 : decode cX7_readChoice 9 = .ok (.invokevirtual 105, 3) := by decide +kernel
theorem dX7_readChoice_12 : decode cX7_readChoice 12 = .ok (.aload_n 0, 1) := by decide +kernel
theorem dX7_readChoice_13 : decode cX7_readChoice 13 = .ok (.iload_n 1, 1) := by decide +kernel
theorem dX7_readChoice_14 : decode cX7_readChoice 14 = .ok (.invokevirtual 222, 3) := by decide +kernel
theorem dX7_readChoice_17 : decode cX7_readChoice 17 = .ok (.aload_n 0, 1) := by decide +kernel
theorem dX7_readChoice_18 : decode cX7_readChoice 18 = .ok (.ldc_w 259, 3) := by decide +kernel
theorem dX7_readChoice_21 : decode cX7_readChoice 21 = .ok (.invokevirtual 105, 3) := by decide +kernel
theorem dX7_readChoice_24 : decode cX7_readChoice 24 = .ok (.aload_n 0, 1) := by decide +kernel
theorem dX7_readChoice_25 : decode cX7_readChoice 25 = .ok (.iload_n 1, 1) := by decide +kernel
theorem dX7_readChoice_26 : decode cX7_readChoice 26 = .ok (.invokevirtual 222, 3) := by decide +kernel
theorem dX7_readChoice_29 : decode cX7_readChoice 29 = .ok (.aload_n 0, 1) := by decide +kernel
theorem dX7_readChoice_30 : decode cX7_readChoice 30 = .ok (.ldc_w 261, 3) := by decide +kernel
theorem dX7_readChoice_33 : decode cX7_readChoice 33 = .ok (.invokevirtual 105, 3) := by decide +kernel
theorem dX7_readChoice_36 : decode cX7_readChoice 36 = .ok (.aload_n 0, 1) := by decide +kernel
theorem dX7_readChoice_37 : decode cX7_readChoice 37 = .ok (.getfield 19, 3) := by decide +kernel
theorem dX7_readChoice_40 : decode cX7_readChoice 40 = .ok (.getfield 212, 3) := by decide +kernel
theorem dX7_readChoice_43 : decode cX7_readChoice 43 = .ok (.sipush 2009, 3) := by decide +kernel
theorem dX7_readChoice_46 : decode cX7_readChoice 46 = .ok (.invokevirtual 240, 3) := by decide +kernel
theorem dX7_readChoice_49 : decode cX7_readChoice 49 = .ok (.return_, 1) := by decide +kernel
def f_X7_readChoice (g : Nat → Int32 → zz_Mem → Option zz_Mem) (p1 : Int32) (m : zz_Mem) : Option zz_Mem :=
  zz_bndR (g 4 p1 m) fun m1 =>
  zz_bndR (f_X7_takeWord 19 m1) fun m2 =>
  zz_bndR (g 0 p1 m2) fun m3 =>
  zz_bndR (f_X7_takeWord 20 m3) fun m4 =>
  zz_bndR (g 0 p1 m4) fun m5 =>
  zz_bndR (f_X7_takeWord 21 m5) fun m6 =>
  zz_bndR (f_X3_add (2009 : Int32) m6) fun m7 =>
  some m7
theorem k_X7_readChoice {l : Launch} {G : zz_G} (hN : 107 ≤ zz_N G) {g : Nat → Int32 → zz_Mem → Option zz_Mem} {d : Nat} (hd0 : 7 ≤ d) (hg0 : ∀ (q1 : Int32) (m : zz_Mem), zz_Con zz_sh l G mX7_readSum d [.ref (zz_a G 30), .int q1] zz_vV zz_mV (g 0 q1 m) m) (hg4 : ∀ (q1 : Int32) (m : zz_Mem), zz_Con zz_sh l G mX7_readTruth d [.ref (zz_a G 30), .int q1] zz_vV zz_mV (g 4 q1 m) m) : ∀ (p1 : Int32) (m : zz_Mem), zz_Con zz_sh l G mX7_readChoice (d + 1) [.ref (zz_a G 30), .int p1] zz_vV zz_mV (f_X7_readChoice g p1 m) m := by
  intro p1 m
  refine zz_con (lv := [(0, .ref (zz_a G 30)), (1, .int p1)]) (by decide +kernel) (Nat.le_of_ble_eq_true rfl) rfl ?_
  unfold f_X7_readChoice
  refine zs_aload_n dX7_readChoice_0 rfl 0 rfl ?_
  refine zs_iload_n dX7_readChoice_1 rfl 1 rfl ?_
  refine zs_cV_vW (rest := []) (hg4 _ _) dX7_readChoice_2 lv_X7_231 ok_X7_readTruth (zz_rcv_o (sh_30 hN) rfl) (Nat.le_refl _) rfl rfl (Nat.le_of_ble_eq_true rfl) (fun m1 => ?_)
  refine zs_aload_n dX7_readChoice_5 rfl 0 rfl ?_
  refine zs_ldcwS (w := 19) dX7_readChoice_6 (by decide +kernel) ?_
  refine zs_cV_vW (rest := []) (k_X7_takeWord hN (Nat.le_of_ble_eq_true rfl)  _) dX7_readChoice_9 lv_X7_105 ok_X7_takeWord (zz_rcv_o (sh_30 hN) rfl) (by omega) rfl rfl (Nat.le_of_ble_eq_true rfl) (fun m2 => ?_)
  refine zs_aload_n dX7_readChoice_12 rfl 0 rfl ?_
  refine zs_iload_n dX7_readChoice_13 rfl 1 rfl ?_
  refine zs_cV_vW (rest := []) (hg0 _ _) dX7_readChoice_14 lv_X7_222 ok_X7_readSum (zz_rcv_o (sh_30 hN) rfl) (Nat.le_refl _) rfl rfl (Nat.le_of_ble_eq_true rfl) (fun m3 => ?_)
  refine zs_aload_n dX7_readChoice_17 rfl 0 rfl ?_
  refine zs_ldcwS (w := 20) dX7_readChoice_18 (by decide +kernel) ?_
  refine zs_cV_vW (rest := []) (k_X7_takeWord hN (Nat.le_of_ble_eq_true rfl)  _) dX7_readChoice_21 lv_X7_105 ok_X7_takeWord (zz_rcv_o (sh_30 hN) rfl) (by omega) rfl rfl (Nat.le_of_ble_eq_true rfl) (fun m4 => ?_)
  refine zs_aload_n dX7_readChoice_24 rfl 0 rfl ?_
  refine zs_iload_n dX7_readChoice_25 rfl 1 rfl ?_
  refine zs_cV_vW (rest := []) (hg0 _ _) dX7_readChoice_26 lv_X7_222 ok_X7_readSum (zz_rcv_o (sh_30 hN) rfl) (Nat.le_refl _) rfl rfl (Nat.le_of_ble_eq_true rfl) (fun m5 => ?_)
  refine zs_aload_n dX7_readChoice_29 rfl 0 rfl ?_
  refine zs_ldcwS (w := 21) dX7_readChoice_30 (by decide +kernel) ?_
  refine zs_cV_vW (rest := []) (k_X7_takeWord hN (Nat.le_of_ble_eq_true rfl)  _) dX7_readChoice_33 lv_X7_105 ok_X7_takeWord (zz_rcv_o (sh_30 hN) rfl) (by omega) rfl rfl (Nat.le_of_ble_eq_true rfl) (fun m6 => ?_)
  refine zs_aload_n dX7_readChoice_36 rfl 0 rfl ?_
  refine zs_getR fl_X7_19 dX7_readChoice_37 (sh_30 hN) rfl ?_
  refine zs_getR fl_X7_212 dX7_readChoice_40 (sh_16 hN) rfl ?_
  refine zs_sipush (v := (2009 : Int32)) dX7_readChoice_43 cs_2009 ?_
  refine zs_cV_vW (rest := []) (k_X3_add hN _ _) dX7_readChoice_46 lv_X7_240 ok_X3_add (zz_rcv_o (sh_23 hN) rfl) (by omega) rfl rfl (Nat.le_of_ble_eq_true rfl) (fun m7 => ?_)
  exact zs_vret dX7_readChoice_49 rfl rfl rfl
/-! X7_readTruth: PillarDesk$Reader.readTruth(I)V -/
theorem dX7_readTruth_0 : decode cX7_readTruth 0 = .ok (.aload_n 0, 1) := by decide +kernel
theorem dX7_readTruth_1 : decode cX7_readTruth 1 = .ok (.iload_n 1, 1) := by decide +kernel
theorem dX7_readTruth_2 : decode cX7_readTruth 2 = .ok (.invokevirtual 281, 3) := by decide +kernel
theorem dX7_readTruth_5 : decode cX7_readTruth 5 = .ok (.iconst 0, 1) := by decide +kernel
theorem dX7_readTruth_6 : decode cX7_readTruth 6 = .ok (.istore_n 2, 1) := by decide +kernel
theorem dX7_readTruth_7 : decode cX7_readTruth 7 = .ok (.iload_n 2, 1) := by decide +kernel
theorem dX7_readTruth_8 : decode cX7_readTruth 8 = .ok (.sipush 900, 3) := by decide +kernel
theorem dX7_readTruth_11 : decode cX7_readTruth 11 = .ok (.if_icmp .ge 41, 3) := by decide +kernel
theorem dX7_readTruth_14 : decode cX7_readTruth 14 = .ok (.aload_n 0, 1) := by decide +kernel
theorem dX7_readTruth_15 : decode cX7_readTruth 15 = .ok (.ldc_w 284, 3) := by decide +kernel
theorem dX7_readTruth_18 : decode cX7_readTruth 18 = .ok (.invokevirtual 99, 3) := by decide +kernel
theorem dX7_readTruth_21 : decode cX7_readTruth 21 = .ok (.ifCond .eq 31, 3) := by decide +kernel
theorem dX7_readTruth_24 : decode cX7_readTruth 24 = .ok (.aload_n 0, 1) := by decide +kernel
theorem dX7_readTruth_25 : decode cX7_readTruth 25 = .ok (.invokevirtual 46, 3) := by decide +kernel
theorem dX7_readTruth_28 : decode cX7_readTruth 28 = .ok (.aload_n 0, 1) := by decide +kernel
theorem dX7_readTruth_29 : decode cX7_readTruth 29 = .ok (.iload_n 1, 1) := by decide +kernel
theorem dX7_readTruth_30 : decode cX7_readTruth 30 = .ok (.invokevirtual 281, 3) := by decide +kernel
theorem dX7_readTruth_33 : decode cX7_readTruth 33 = .ok (.aload_n 0, 1) := by decide +kernel
theorem dX7_readTruth_34 : decode cX7_readTruth 34 = .ok (.getfield 19, 3) := by decide +kernel
theorem dX7_readTruth_37 : decode cX7_readTruth 37 = .ok (.getfield 212, 3) := by decide +kernel
theorem dX7_readTruth_40 : decode cX7_readTruth 40 = .ok (.sipush 2007, 3) := by decide +kernel
theorem dX7_readTruth_43 : decode cX7_readTruth 43 = .ok (.invokevirtual 240, 3) := by decide +kernel
theorem dX7_readTruth_46 : decode cX7_readTruth 46 = .ok (.iinc 2 1, 3) := by decide +kernel
theorem dX7_readTruth_49 : decode cX7_readTruth 49 = .ok (.goto (-42), 3) := by decide +kernel
theorem dX7_readTruth_52 : decode cX7_readTruth 52 = .ok (.return_, 1) := by decide +kernel
def f_X7_readTruth_7 (g : Nat → Int32 → zz_Mem → Option zz_Mem)  : Nat → Int32 → Int32 → zz_Mem → Option zz_Mem
  | 0, _, _, _ => none
  | n + 1, v1, v2, m =>
  if (900 : Int32) ≤ v2 then (
  some m)
  else (
  zz_bndR (f_X7_isWord 18 m) fun r1 =>
  if r1 = 0 then (
  some m)
  else (
  zz_bndR (f_X7_next m) fun m2 =>
  zz_bndR (g 5 v1 m2) fun m3 =>
  zz_bndR (f_X3_add (2007 : Int32) m3) fun m4 =>
  zz_letI (v2 + (1 : Int32)) fun x5 =>
  f_X7_readTruth_7 g n v1 x5 m4))
theorem t_X7_readTruth_7 {l : Launch} {G : zz_G} (hN : 107 ≤ zz_N G) {g : Nat → Int32 → zz_Mem → Option zz_Mem} {d : Nat} (hd0 : 7 ≤ d) (hg5 : ∀ (q1 : Int32) (m : zz_Mem), zz_Con zz_sh l G mX7_readBoth d [.ref (zz_a G 30), .int q1] zz_vV zz_mV (g 5 q1 m) m)  : ∀ (n : Nat) (v1 : Int32) (v2 : Int32) (m : zz_Mem), zz_Sim zz_sh l G mX7_readTruth (d + 1) zz_vV zz_mV (f_X7_readTruth_7 g n v1 v2 m) 7 [(0, .ref (zz_a G 30)), (1, .int v1), (2, .int v2)] [] m := by
  intro n
  induction n with
  | zero => intro _ _ _; exact zs_none
  | succ n ih =>
    intro v1 v2 m
    rw [f_X7_readTruth_7]
    refine zs_iload_n dX7_readTruth_7 rfl 2 rfl ?_
    refine zs_sipush (v := (900 : Int32)) dX7_readTruth_8 cs_900 ?_
    refine zs_icmp_ge (tgt := 52) dX7_readTruth_11 (by decide) ?_ ?_
    · exact zs_vret dX7_readTruth_52 rfl rfl rfl
    · refine zs_aload_n dX7_readTruth_14 rfl 0 rfl ?_
      refine zs_ldcwS (w := 18) dX7_readTruth_15 (by decide +kernel) ?_
      refine zs_cV_iR (rest := []) (k_X7_isWord hN (Nat.le_of_ble_eq_true rfl)  _) dX7_readTruth_18 lv_X7_99 ok_X7_isWord (zz_rcv_o (sh_30 hN) rfl) (by omega) rfl rfl (Nat.le_of_ble_eq_true rfl) (fun r1 => ?_)
      refine zs_if_eq (tgt := 52) dX7_readTruth_21 (by decide) ?_ ?_
      · exact zs_vret dX7_readTruth_52 rfl rfl rfl
      · refine zs_aload_n dX7_readTruth_24 rfl 0 rfl ?_
        refine zs_cV_vW (rest := []) (k_X7_next hN  _) dX7_readTruth_25 lv_X7_46 ok_X7_next (zz_rcv_o (sh_30 hN) rfl) (by omega) rfl rfl (Nat.le_of_ble_eq_true rfl) (fun m2 => ?_)
        refine zs_aload_n dX7_readTruth_28 rfl 0 rfl ?_
        refine zs_iload_n dX7_readTruth_29 rfl 1 rfl ?_
        refine zs_cV_vW (rest := []) (hg5 _ _) dX7_readTruth_30 lv_X7_281 ok_X7_readBoth (zz_rcv_o (sh_30 hN) rfl) (Nat.le_refl _) rfl rfl (Nat.le_of_ble_eq_true rfl) (fun m3 => ?_)
        refine zs_aload_n dX7_readTruth_33 rfl 0 rfl ?_
        refine zs_getR fl_X7_19 dX7_readTruth_34 (sh_30 hN) rfl ?_
        refine zs_getR fl_X7_212 dX7_readTruth_37 (sh_16 hN) rfl ?_
        refine zs_sipush (v := (2007 : Int32)) dX7_readTruth_40 cs_2007 ?_
        refine zs_cV_vW (rest := []) (k_X3_add hN _ _) dX7_readTruth_43 lv_X7_240 ok_X3_add (zz_rcv_o (sh_23 hN) rfl) (by omega) rfl rfl (Nat.le_of_ble_eq_true rfl) (fun m4 => ?_)
        refine zs_iinc (fun y => [(2, .int y), (0, .ref (zz_a G 30)), (1, .int v1)]) dX7_readTruth_46 2 rfl ci_1 (Nat.le_of_ble_eq_true rfl) (fun _ => rfl) (fun x5 => ?_)
        refine zs_goto (tgt := 7) dX7_readTruth_49 (by decide) ?_
        refine zs_sub [1, 2, 0] rfl ?_
        exact ih _ _ _
def f_X7_readTruth (g : Nat → Int32 → zz_Mem → Option zz_Mem) (p1 : Int32) (m : zz_Mem) : Option zz_Mem :=
  zz_bndR (g 5 p1 m) fun m1 =>
  f_X7_readTruth_7 g zz_fuel p1 (0 : Int32) m1
theorem k_X7_readTruth {l : Launch} {G : zz_G} (hN : 107 ≤ zz_N G) {g : Nat → Int32 → zz_Mem → Option zz_Mem} {d : Nat} (hd0 : 7 ≤ d) (hg5 : ∀ (q1 : Int32) (m : zz_Mem), zz_Con zz_sh l G mX7_readBoth d [.ref (zz_a G 30), .int q1] zz_vV zz_mV (g 5 q1 m) m) : ∀ (p1 : Int32) (m : zz_Mem), zz_Con zz_sh l G mX7_readTruth (d + 1) [.ref (zz_a G 30), .int p1] zz_vV zz_mV (f_X7_readTruth g p1 m) m := by
  intro p1 m
  refine zz_con (lv := [(0, .ref (zz_a G 30)), (1, .int p1)]) (by decide +kernel) (Nat.le_of_ble_eq_true rfl) rfl ?_
  unfold f_X7_readTruth
  refine zs_aload_n dX7_readTruth_0 rfl 0 rfl ?_
  refine zs_iload_n dX7_readTruth_1 rfl 1 rfl ?_
  refine zs_cV_vW (rest := []) (hg5 _ _) dX7_readTruth_2 lv_X7_281 ok_X7_readBoth (zz_rcv_o (sh_30 hN) rfl) (Nat.le_refl _) rfl rfl (Nat.le_of_ble_eq_true rfl) (fun m1 => ?_)
  refine zs_iconst (v := (0 : Int32)) dX7_readTruth_5 ci_0 ?_
  refine zs_istore_n [(2, .int (0 : Int32)), (0, .ref (zz_a G 30)), (1, .int p1)] dX7_readTruth_6 rfl (Nat.le_of_ble_eq_true rfl) rfl ?_
  refine zs_sub [1, 2, 0] rfl ?_
  exact t_X7_readTruth_7 hN hd0 hg5 zz_fuel _ _ _
/-! X7_readBoth: PillarDesk$Reader.readBoth(I)V -/
theorem dX7_readBoth_0 : decode cX7_readBoth 0 = .ok (.aload_n 0, 1) := by decide +kernel
theorem dX7_readBoth_1 : decode cX7_readBoth 1 = .ok (.iload_n 1, 1) := by decide +kernel
theorem dX7_readBoth_2 : decode cX7_readBoth 2 = .ok (.invokevirtual 286, 3) := by decide +kernel
theorem dX7_readBoth_5 : decode cX7_readBoth 5 = .ok (.iconst 0, 1) := by decide +kernel
theorem dX7_readBoth_6 : decode cX7_readBoth 6 = .ok (.istore_n 2, 1) := by decide +kernel
theorem dX7_readBoth_7 : decode cX7_readBoth 7 = .ok (.iload_n 2, 1) := by decide +kernel
theorem dX7_readBoth_8 : decode cX7_readBoth 8 = .ok (.sipush 900, 3) := by decide +kernel
theorem dX7_readBoth_11 : decode cX7_readBoth 11 = .ok (.if_icmp .ge 41, 3) := by decide +kernel
theorem dX7_readBoth_14 : decode cX7_readBoth 14 = .ok (.aload_n 0, 1) := by decide +kernel
theorem dX7_readBoth_15 : decode cX7_readBoth 15 = .ok (.ldc_w 289, 3) := by decide +kernel
theorem dX7_readBoth_18 : decode cX7_readBoth 18 = .ok (.invokevirtual 99, 3) := by decide +kernel
theorem dX7_readBoth_21 : decode cX7_readBoth 21 = .ok (.ifCond .eq 31, 3) := by decide +kernel
theorem dX7_readBoth_24 : decode cX7_readBoth 24 = .ok (.aload_n 0, 1) := by decide +kernel
theorem dX7_readBoth_25 : decode cX7_readBoth 25 = .ok (.invokevirtual 46, 3) := by decide +kernel
theorem dX7_readBoth_28 : decode cX7_readBoth 28 = .ok (.aload_n 0, 1) := by decide +kernel
theorem dX7_readBoth_29 : decode cX7_readBoth 29 = .ok (.iload_n 1, 1) := by decide +kernel
theorem dX7_readBoth_30 : decode cX7_readBoth 30 = .ok (.invokevirtual 286, 3) := by decide +kernel
theorem dX7_readBoth_33 : decode cX7_readBoth 33 = .ok (.aload_n 0, 1) := by decide +kernel
theorem dX7_readBoth_34 : decode cX7_readBoth 34 = .ok (.getfield 19, 3) := by decide +kernel
theorem dX7_readBoth_37 : decode cX7_readBoth 37 = .ok (.getfield 212, 3) := by decide +kernel
theorem dX7_readBoth_40 : decode cX7_readBoth 40 = .ok (.sipush 2006, 3) := by decide +kernel
theorem dX7_readBoth_43 : decode cX7_readBoth 43 = .ok (.invokevirtual 240, 3) := by decide +kernel
theorem dX7_readBoth_46 : decode cX7_readBoth 46 = .ok (.iinc 2 1, 3) := by decide +kernel
theorem dX7_readBoth_49 : decode cX7_readBoth 49 = .ok (.goto (-42), 3) := by decide +kernel
theorem dX7_readBoth_52 : decode cX7_readBoth 52 = .ok (.return_, 1) := by decide +kernel
def f_X7_readBoth_7 (g : Nat → Int32 → zz_Mem → Option zz_Mem)  : Nat → Int32 → Int32 → zz_Mem → Option zz_Mem
  | 0, _, _, _ => none
  | n + 1, v1, v2, m =>
  if (900 : Int32) ≤ v2 then (
  some m)
  else (
  zz_bndR (f_X7_isWord 17 m) fun r1 =>
  if r1 = 0 then (
  some m)
  else (
  zz_bndR (f_X7_next m) fun m2 =>
  zz_bndR (g 6 v1 m2) fun m3 =>
  zz_bndR (f_X3_add (2006 : Int32) m3) fun m4 =>
  zz_letI (v2 + (1 : Int32)) fun x5 =>
  f_X7_readBoth_7 g n v1 x5 m4))
theorem t_X7_readBoth_7 {l : Launch} {G : zz_G} (hN : 107 ≤ zz_N G) {g : Nat → Int32 → zz_Mem → Option zz_Mem} {d : Nat} (hd0 : 7 ≤ d) (hg6 : ∀ (q1 : Int32) (m : zz_Mem), zz_Con zz_sh l G mX7_readUnit d [.ref (zz_a G 30), .int q1] zz_vV zz_mV (g 6 q1 m) m)  : ∀ (n : Nat) (v1 : Int32) (v2 : Int32) (m : zz_Mem), zz_Sim zz_sh l G mX7_readBoth (d + 1) zz_vV zz_mV (f_X7_readBoth_7 g n v1 v2 m) 7 [(0, .ref (zz_a G 30)), (1, .int v1), (2, .int v2)] [] m := by
  intro n
  induction n with
  | zero => intro _ _ _; exact zs_none
  | succ n ih =>
    intro v1 v2 m
    rw [f_X7_readBoth_7]
    refine zs_iload_n dX7_readBoth_7 rfl 2 rfl ?_
    refine zs_sipush (v := (900 : Int32)) dX7_readBoth_8 cs_900 ?_
    refine zs_icmp_ge (tgt := 52) dX7_readBoth_11 (by decide) ?_ ?_
    · exact zs_vret dX7_readBoth_52 rfl rfl rfl
    · refine zs_aload_n dX7_readBoth_14 rfl 0 rfl ?_
      refine zs_ldcwS (w := 17) dX7_readBoth_15 (by decide +kernel) ?_
      refine zs_cV_iR (rest := []) (k_X7_isWord hN (Nat.le_of_ble_eq_true rfl)  _) dX7_readBoth_18 lv_X7_99 ok_X7_isWord (zz_rcv_o (sh_30 hN) rfl) (by omega) rfl rfl (Nat.le_of_ble_eq_true rfl) (fun r1 => ?_)
      refine zs_if_eq (tgt := 52) dX7_readBoth_21 (by decide) ?_ ?_
      · exact zs_vret dX7_readBoth_52 rfl rfl rfl
      · refine zs_aload_n dX7_readBoth_24 rfl 0 rfl ?_
        refine zs_cV_vW (rest := []) (k_X7_next hN  _) dX7_readBoth_25 lv_X7_46 ok_X7_next (zz_rcv_o (sh_30 hN) rfl) (by omega) rfl rfl (Nat.le_of_ble_eq_true rfl) (fun m2 => ?_)
        refine zs_aload_n dX7_readBoth_28 rfl 0 rfl ?_
        refine zs_iload_n dX7_readBoth_29 rfl 1 rfl ?_
        refine zs_cV_vW (rest := []) (hg6 _ _) dX7_readBoth_30 lv_X7_286 ok_X7_readUnit (zz_rcv_o (sh_30 hN) rfl) (Nat.le_refl _) rfl rfl (Nat.le_of_ble_eq_true rfl) (fun m3 => ?_)
        refine zs_aload_n dX7_readBoth_33 rfl 0 rfl ?_
        refine zs_getR fl_X7_19 dX7_readBoth_34 (sh_30 hN) rfl ?_
        refine zs_getR fl_X7_212 dX7_readBoth_37 (sh_16 hN) rfl ?_
        refine zs_sipush (v := (2006 : Int32)) dX7_readBoth_40 cs_2006 ?_
        refine zs_cV_vW (rest := []) (k_X3_add hN _ _) dX7_readBoth_43 lv_X7_240 ok_X3_add (zz_rcv_o (sh_23 hN) rfl) (by omega) rfl rfl (Nat.le_of_ble_eq_true rfl) (fun m4 => ?_)
        refine zs_iinc (fun y => [(2, .int y), (0, .ref (zz_a G 30)), (1, .int v1)]) dX7_readBoth_46 2 rfl ci_1 (Nat.le_of_ble_eq_true rfl) (fun _ => rfl) (fun x5 => ?_)
        refine zs_goto (tgt := 7) dX7_readBoth_49 (by decide) ?_
        refine zs_sub [1, 2, 0] rfl ?_
        exact ih _ _ _
def f_X7_readBoth (g : Nat → Int32 → zz_Mem → Option zz_Mem) (p1 : Int32) (m : zz_Mem) : Option zz_Mem :=
  zz_bndR (g 6 p1 m) fun m1 =>
  f_X7_readBoth_7 g zz_fuel p1 (0 : Int32) m1
theorem k_X7_readBoth {l : Launch} {G : zz_G} (hN : 107 ≤ zz_N G) {g : Nat → Int32 → zz_Mem → Option zz_Mem} {d : Nat} (hd0 : 7 ≤ d) (hg6 : ∀ (q1 : Int32) (m : zz_Mem), zz_Con zz_sh l G mX7_readUnit d [.ref (zz_a G 30), .int q1] zz_vV zz_mV (g 6 q1 m) m) : ∀ (p1 : Int32) (m : zz_Mem), zz_Con zz_sh l G mX7_readBoth (d + 1) [.ref (zz_a G 30), .int p1] zz_vV zz_mV (f_X7_readBoth g p1 m) m := by
  intro p1 m
  refine zz_con (lv := [(0, .ref (zz_a G 30)), (1, .int p1)]) (by decide +kernel) (Nat.le_of_ble_eq_true rfl) rfl ?_
  unfold f_X7_readBoth
  refine zs_aload_n dX7_readBoth_0 rfl 0 rfl ?_
  refine zs_iload_n dX7_readBoth_1 rfl 1 rfl ?_
  refine zs_cV_vW (rest := []) (hg6 _ _) dX7_readBoth_2 lv_X7_286 ok_X7_readUnit (zz_rcv_o (sh_30 hN) rfl) (Nat.le_refl _) rfl rfl (Nat.le_of_ble_eq_true rfl) (fun m1 => ?_)
  refine zs_iconst (v := (0 : Int32)) dX7_readBoth_5 ci_0 ?_
  refine zs_istore_n [(2, .int (0 : Int32)), (0, .ref (zz_a G 30)), (1, .int p1)] dX7_readBoth_6 rfl (Nat.le_of_ble_eq_true rfl) rfl ?_
  refine zs_sub [1, 2, 0] rfl ?_
  exact t_X7_readBoth_7 hN hd0 hg6 zz_fuel _ _ _
/-! X7_readUnit: PillarDesk$Reader.readUnit(I)V -/
theorem dX7_readUnit_0 : decode cX7_readUnit 0 = .ok (.aload_n 0, 1) := by decide +kernel
theorem dX7_readUnit_1 : decode cX7_readUnit 1 = .ok (.ldc_w 291, 3) := by decide +kernel
theorem dX7_readUnit_4 : decode cX7_readUnit 4 = .ok (.invokevirtual 99, 3) := by decide +kernel
theorem dX7_readUnit_7 : decode cX7_readUnit 7 = .ok (.ifCond .eq 39, 3) := by decide +kernel
theorem dX7_readUnit_10 : decode cX7_readUnit 10 = .ok (.aload_n 0, 1) := by decide +kernel
theorem dX7_readUnit_11 : decode cX7_readUnit 11 = .ok (.iload_n 1, 1) := by decide +kernel
theorem dX7_readUnit_12 : decode cX7_readUnit 12 = .ok (.invokevirtual 246, 3) := by decide +kernel
theorem dX7_readUnit_15 : decode cX7_readUnit 15 = .ok (.aload_n 0, 1) := by decide +kernel
theorem dX7_readUnit_16 : decode cX7_readUnit 16 = .ok (.getfield 52, 3) := by decide +kernel
theorem dX7_readUnit_19 : decode cX7_readUnit 19 = .ok (.iconst 3, 1) := by decide +kernel
theorem dX7_readUnit_20 : decode cX7_readUnit 20 = .ok (.if_icmp .eq 69, 3) := by decide +kernel
theorem dX7_readUnit_23 : decode cX7_readUnit 23 = .ok (.aload_n 0, 1) := by decide +kernel
theorem dX7_readUnit_24 : decode cX7_readUnit 24 = .ok (.iload_n 1, 1) := by decide +kernel
theorem dX7_readUnit_25 : decode cX7_readUnit 25 = .ok (.iconst 1, 1) := by decide +kernel
theorem dX7_readUnit_26 : decode cX7_readUnit 26 = .ok (.iadd, 1) := by decide +kernel
theorem dX7_readUnit_27 : decode cX7_readUnit 27 = .ok (.invokevirtual 286, 3) := by decide +kernel
theorem dX7_readUnit_30 : decode cX7_readUnit 30 = .ok (.aload_n 0, 1) := by decide +kernel
theorem dX7_readUnit_31 : decode cX7_readUnit 31 = .ok (.getfield 19, 3) := by decide +kernel
theorem dX7_readUnit_34 : decode cX7_readUnit 34 = .ok (.getfield 212, 3) := by decide +kernel
theorem dX7_readUnit_37 : decode cX7_readUnit 37 = .ok (.sipush 2008, 3) := by decide +kernel
theorem dX7_readUnit_40 : decode cX7_readUnit 40 = .ok (.invokevirtual 240, 3) := by decide +kernel
theorem dX7_readUnit_43 : decode cX7_readUnit 43 = .ok (.goto 46, 3) := by decide +kernel
theorem dX7_readUnit_46 : decode cX7_readUnit 46 = .ok (.aload_n 0, 1) := by decide +kernel
theorem dX7_readUnit_47 : decode cX7_readUnit 47 = .ok (.getfield 52, 3) := by decide +kernel
theorem dX7_readUnit_50 : decode cX7_readUnit 50 = .ok (.bipush 91, 2) := by decide +kernel
theorem dX7_readUnit_52 : decode cX7_readUnit 52 = .ok (.if_icmp .ne 32, 3) := by decide +kernel
theorem dX7_readUnit_55 : decode cX7_readUnit 55 = .ok (.aload_n 0, 1) := by decide +kernel
theorem dX7_readUnit_56 : decode cX7_readUnit 56 = .ok (.iload_n 1, 1) := by decide +kernel
theorem dX7_readUnit_57 : decode cX7_readUnit 57 = .ok (.invokevirtual 246, 3) := by decide +kernel
theorem dX7_readUnit_60 : decode cX7_readUnit 60 = .ok (.aload_n 0, 1) := by decide +kernel
theorem dX7_readUnit_61 : decode cX7_readUnit 61 = .ok (.getfield 52, 3) := by decide +kernel
theorem dX7_readUnit_64 : decode cX7_readUnit 64 = .ok (.iconst 3, 1) := by decide +kernel
theorem dX7_readUnit_65 : decode cX7_readUnit 65 = .ok (.if_icmp .eq 24, 3) := by decide +kernel
theorem dX7_readUnit_68 : decode cX7_readUnit 68 = .ok (.aload_n 0, 1) := by decide +kernel
theorem dX7_readUnit_69 : decode cX7_readUnit 69 = .ok (.iload_n 1, 1) := by decide +kernel
theorem dX7_readUnit_70 : decode cX7_readUnit 70 = .ok (.iconst 1, 1) := by decide +kernel
theorem dX7_readUnit_71 : decode cX7_readUnit 71 = .ok (.iadd, 1) := by decide +kernel
theorem dX7_readUnit_72 : decode cX7_readUnit 72 = .ok (.invokevirtual 231, 3) := by decide +kernel
theorem dX7_readUnit_75 : decode cX7_readUnit 75 = .ok (.aload_n 0, 1) := by decide +kernel
theorem dX7_readUnit_76 : decode cX7_readUnit 76 = .ok (.bipush 93, 2) := by decide +kernel
theorem dX7_readUnit_78 : decode cX7_readUnit 78 = .ok (.invokevirtual 131, 3) := by decide +kernel
theorem dX7_readUnit_81 : decode cX7_readUnit 81 = .ok (.goto 8, 3) := by decide +kernel
theorem dX7_readUnit_84 : decode cX7_readUnit 84 = .ok (.aload_n 0, 1) := by decide +kernel
theorem dX7_readUnit_85 : decode cX7_readUnit 85 = .ok (.iload_n 1, 1) := by decide +kernel
theorem dX7_readUnit_86 : decode cX7_readUnit 86 = .ok (.invokevirtual 293, 3) := by decide +kernel
theorem dX7_readUnit_89 : decode cX7_readUnit 89 = .ok (.return_, 1) := by decide +kernel
def f_X7_readUnit (g : Nat → Int32 → zz_Mem → Option zz_Mem) (p1 : Int32) (m : zz_Mem) : Option zz_Mem :=
  zz_bndR (f_X7_isWord 16 m) fun r1 =>
  if r1 = 0 then (
  if (m.1 30 4) = (91 : Int32) then (
  zz_bndR (f_X7_goDeeper p1 m) fun m3 =>
  if (m3.1 30 4) = (3 : Int32) then (
  some m3)
  else (
  zz_bndR (g 4 (p1 + (1 : Int32)) m3) fun m4 =>
  zz_bndR (f_X7_takeSign (93 : Int32) m4) fun m5 =>
  some m5))
  else (
  zz_bndR (g 7 p1 m) fun m2 =>
  some m2))
  else (
  zz_bndR (f_X7_goDeeper p1 m) fun m6 =>
  if (m6.1 30 4) = (3 : Int32) then (
  some m6)
  else (
  zz_bndR (g 6 (p1 + (1 : Int32)) m6) fun m7 =>
  zz_bndR (f_X3_add (2008 : Int32) m7) fun m8 =>
  some m8))
theorem k_X7_readUnit {l : Launch} {G : zz_G} (hN : 107 ≤ zz_N G) {g : Nat → Int32 → zz_Mem → Option zz_Mem} {d : Nat} (hd0 : 7 ≤ d) (hg4 : ∀ (q1 : Int32) (m : zz_Mem), zz_Con zz_sh l G mX7_readTruth d [.ref (zz_a G 30), .int q1] zz_vV zz_mV (g 4 q1 m) m) (hg6 : ∀ (q1 : Int32) (m : zz_Mem), zz_Con zz_sh l G mX7_readUnit d [.ref (zz_a G 30), .int q1] zz_vV zz_mV (g 6 q1 m) m) (hg7 : ∀ (q1 : Int32) (m : zz_Mem), zz_Con zz_sh l G mX7_readComparison d [.ref (zz_a G 30), .int q1] zz_vV zz_mV (g 7 q1 m) m) : ∀ (p1 : Int32) (m : zz_Mem), zz_Con zz_sh l G mX7_readUnit (d + 1) [.ref (zz_a G 30), .int p1] zz_vV zz_mV (f_X7_readUnit g p1 m) m := by
  intro p1 m
  refine zz_con (lv := [(0, .ref (zz_a G 30)), (1, .int p1)]) (by decide +kernel) (Nat.le_of_ble_eq_true rfl) rfl ?_
  unfold f_X7_readUnit
  refine zs_aload_n dX7_readUnit_0 rfl 0 rfl ?_
  refine zs_ldcwS (w := 16) dX7_readUnit_1 (by decide +kernel) ?_
  refine zs_cV_iR (rest := []) (k_X7_isWord hN (Nat.le_of_ble_eq_true rfl)  _) dX7_readUnit_4 lv_X7_99 ok_X7_isWord (zz_rcv_o (sh_30 hN) rfl) (by omega) rfl rfl (Nat.le_of_ble_eq_true rfl) (fun r1 => ?_)
  refine zs_if_eq (tgt := 46) dX7_readUnit_7 (by decide) ?_ ?_
  · refine zs_aload_n dX7_readUnit_46 rfl 0 rfl ?_
    refine zs_getI fl_X7_52 dX7_readUnit_47 (sh_30 hN) rfl ?_
    refine zs_bipush (v := (91 : Int32)) dX7_readUnit_50 cb_91 ?_
    refine zs_icmp_ne (tgt := 84) dX7_readUnit_52 (by decide) ?_ ?_
    · refine zs_aload_n dX7_readUnit_84 rfl 0 rfl ?_
      refine zs_iload_n dX7_readUnit_85 rfl 1 rfl ?_
      refine zs_cV_vW (rest := []) (hg7 _ _) dX7_readUnit_86 lv_X7_293 ok_X7_readComparison (zz_rcv_o (sh_30 hN) rfl) (Nat.le_refl _) rfl rfl (Nat.le_of_ble_eq_true rfl) (fun m2 => ?_)
      exact zs_vret dX7_readUnit_89 rfl rfl rfl
    · refine zs_aload_n dX7_readUnit_55 rfl 0 rfl ?_
      refine zs_iload_n dX7_readUnit_56 rfl 1 rfl ?_
      refine zs_cV_vW (rest := []) (k_X7_goDeeper hN _ _) dX7_readUnit_57 lv_X7_246 ok_X7_goDeeper (zz_rcv_o (sh_30 hN) rfl) (by omega) rfl rfl (Nat.le_of_ble_eq_true rfl) (fun m3 => ?_)
      refine zs_aload_n dX7_readUnit_60 rfl 0 rfl ?_
      refine zs_getI fl_X7_52 dX7_readUnit_61 (sh_30 hN) rfl ?_
      refine zs_iconst (v := (3 : Int32)) dX7_readUnit_64 ci_3 ?_
      refine zs_icmp_eq (tgt := 89) dX7_readUnit_65 (by decide) ?_ ?_
      · exact zs_vret dX7_readUnit_89 rfl rfl rfl
      · refine zs_aload_n dX7_readUnit_68 rfl 0 rfl ?_
        refine zs_iload_n dX7_readUnit_69 rfl 1 rfl ?_
        refine zs_iconst (v := (1 : Int32)) dX7_readUnit_70 ci_1 ?_
        refine zs_iadd dX7_readUnit_71 ?_
        refine zs_cV_vW (rest := []) (hg4 _ _) dX7_readUnit_72 lv_X7_231 ok_X7_readTruth (zz_rcv_o (sh_30 hN) rfl) (Nat.le_refl _) rfl rfl (Nat.le_of_ble_eq_true rfl) (fun m4 => ?_)
        refine zs_aload_n dX7_readUnit_75 rfl 0 rfl ?_
        refine zs_bipush (v := (93 : Int32)) dX7_readUnit_76 cb_93 ?_
        refine zs_cV_vW (rest := []) (k_X7_takeSign hN _ _) dX7_readUnit_78 lv_X7_131 ok_X7_takeSign (zz_rcv_o (sh_30 hN) rfl) (by omega) rfl rfl (Nat.le_of_ble_eq_true rfl) (fun m5 => ?_)
        refine zs_goto (tgt := 89) dX7_readUnit_81 (by decide) ?_
        exact zs_vret dX7_readUnit_89 rfl rfl rfl
  · refine zs_aload_n dX7_readUnit_10 rfl 0 rfl ?_
    refine zs_iload_n dX7_readUnit_11 rfl 1 rfl ?_
    refine zs_cV_vW (rest := []) (k_X7_goDeeper hN _ _) dX7_readUnit_12 lv_X7_246 ok_X7_goDeeper (zz_rcv_o (sh_30 hN) rfl) (by omega) rfl rfl (Nat.le_of_ble_eq_true rfl) (fun m6 => ?_)
    refine zs_aload_n dX7_readUnit_15 rfl 0 rfl ?_
    refine zs_getI fl_X7_52 dX7_readUnit_16 (sh_30 hN) rfl ?_
    refine zs_iconst (v := (3 : Int32)) dX7_readUnit_19 ci_3 ?_
    refine zs_icmp_eq (tgt := 89) dX7_readUnit_20 (by decide) ?_ ?_
    · exact zs_vret dX7_readUnit_89 rfl rfl rfl
    · refine zs_aload_n dX7_readUnit_23 rfl 0 rfl ?_
      refine zs_iload_n dX7_readUnit_24 rfl 1 rfl ?_
      refine zs_iconst (v := (1 : Int32)) dX7_readUnit_25 ci_1 ?_
      refine zs_iadd dX7_readUnit_26 ?_
      refine zs_cV_vW (rest := []) (hg6 _ _) dX7_readUnit_27 lv_X7_286 ok_X7_readUnit (zz_rcv_o (sh_30 hN) rfl) (Nat.le_refl _) rfl rfl (Nat.le_of_ble_eq_true rfl) (fun m7 => ?_)
      refine zs_aload_n dX7_readUnit_30 rfl 0 rfl ?_
      refine zs_getR fl_X7_19 dX7_readUnit_31 (sh_30 hN) rfl ?_
      refine zs_getR fl_X7_212 dX7_readUnit_34 (sh_16 hN) rfl ?_
      refine zs_sipush (v := (2008 : Int32)) dX7_readUnit_37 cs_2008 ?_
      refine zs_cV_vW (rest := []) (k_X3_add hN _ _) dX7_readUnit_40 lv_X7_240 ok_X3_add (zz_rcv_o (sh_23 hN) rfl) (by omega) rfl rfl (Nat.le_of_ble_eq_true rfl) (fun m8 => ?_)
      refine zs_goto (tgt := 89) dX7_readUnit_43 (by decide) ?_
      exact zs_vret dX7_readUnit_89 rfl rfl rfl
/-! X7_readComparison: PillarDesk$Reader.readComparison(I)V -/
theorem dX7_readComparison_0 : decode cX7_readComparison 0 = .ok (.aload_n 0, 1) := by decide +kernel
theorem dX7_readComparison_1 : decode cX7_readComparison 1 = .ok (.iload_n 1, 1) := by decide +kernel
theorem dX7_readComparison_2 : decode cX7_readComparison 2 = .ok (.invokevirtual 222, 3) := by decide +kernel
theorem dX7_readComparison_5 : decode cX7_readComparison 5 = .ok (.aload_n 0, 1) := by decide +kernel
theorem dX7_readComparison_6 : decode cX7_readComparison 6 = .ok (.getfield 52, 3) := by decide +kernel
theorem dX7_readComparison_9 : decode cX7_readComparison 9 = .ok (.bipush 61, 2) := by decide +kernel
theorem dX7_readComparison_11 : decode cX7_readComparison 11 = .ok (.if_icmp .ne 9, 3) := by decide +kernel
theorem dX7_readComparison_14 : decode cX7_readComparison 14 = .ok (.sipush 2003, 3) := by decide +kernel
theorem dX7_readComparison_17 : decode cX7_readComparison 17 = .ok (.goto 34, 3) := by decide +kernel
theorem dX7_readComparison_20 : decode cX7_readComparison 20 = .ok (.aload_n 0, 1) := by decide +kernel
theorem dX7_readComparison_21 : decode cX7_readComparison 21 = .ok (.getfield 52, 3) := by decide +kernel
theorem dX7_readComparison_24 : decode cX7_readComparison 24 = .ok (.bipush 60, 2) := by decide +kernel
theorem dX7_readComparison_26 : decode cX7_readComparison 26 = .ok (.if_icmp .ne 9, 3) := by decide +kernel
theorem dX7_readComparison_29 : decode cX7_readComparison 29 = .ok (.sipush 2004, 3) := by decide +kernel
theorem dX7_readComparison_32 : decode cX7_readComparison 32 = .ok (.goto 19, 3) := by decide +kernel
theorem dX7_readComparison_35 : decode cX7_readComparison 35 = .ok (.aload_n 0, 1) := by decide +kernel
theorem dX7_readComparison_36 : decode cX7_readComparison 36 = .ok (.getfield 52, 3) := by decide +kernel
theorem dX7_readComparison_39 : decode cX7_readComparison 39 = .ok (.bipush 62, 2) := by decide +kernel
theorem dX7_readComparison_41 : decode cX7_readComparison 41 = .ok (.if_icmp .ne 9, 3) := by decide +kernel
theorem dX7_readComparison_44 : decode cX7_readComparison 44 = .ok (.sipush 2005, 3) := by decide +kernel
theorem dX7_readComparison_47 : decode cX7_readComparison 47 = .ok (.goto 4, 3) := by decide +kernel
theorem dX7_readComparison_50 : decode cX7_readComparison 50 = .ok (.iconst (-1), 1) := by decide +kernel
theorem dX7_readComparison_51 : decode cX7_readComparison 51 = .ok (.istore_n 2, 1) := by decide +kernel
theorem dX7_readComparison_52 : decode cX7_readComparison 52 = .ok (.iload_n 2, 1) := by decide +kernel
theorem dX7_readComparison_53 : decode cX7_readComparison 53 = .ok (.iconst (-1), 1) := by decide +kernel
theorem dX7_readComparison_54 : decode cX7_readComparison 54 = .ok (.if_icmp .ne 9, 3) := by decide +kernel
theorem dX7_readComparison_57 : decode cX7_readComparison 57 = .ok (.aload_n 0, 1) := by decide +kernel
theorem dX7_readComparison_58 : decode cX7_readComparison 58 = .ok (.iconst 2, 1) := by decide +kernel
theorem dX7_readComparison_59 : decode cX7_readComparison 59 = .ok (.invokevirtual 85, 3) := by decide +kernel
theorem dX7_readComparison_62 : decode cX7_readComparison 62 = .ok (.return_, 1) := by decide +kernel
theorem dX7_readComparison_63 : decode cX7_readComparison 63 = .ok (.aload_n 0, 1) := by decide +kernel
theorem dX7_readComparison_64 : decode cX7_readComparison 64 = .ok (.invokevirtual 46, 3) := by decide +kernel
theorem dX7_readComparison_67 : decode cX7_readComparison 67 = .ok (.aload_n 0, 1) := by decide +kernel
theorem dX7_readComparison_68 : decode cX7_readComparison 68 = .ok (.iload_n 1, 1) := by decide +kernel
theorem dX7_readComparison_69 : decode cX7_readComparison 69 = .ok (.invokevirtual 222, 3) := by decide +kernel
theorem dX7_readComparison_72 : decode cX7_readComparison 72 = .ok (.aload_n 0, 1) := by decide +kernel
theorem dX7_readComparison_73 : decode cX7_readComparison 73 = .ok (.getfield 19, 3) := by decide +kernel
theorem dX7_readComparison_76 : decode cX7_readComparison 76 = .ok (.getfield 212, 3) := by decide +kernel
theorem dX7_readComparison_79 : decode cX7_readComparison 79 = .ok (.iload_n 2, 1) := by decide +kernel
theorem dX7_readComparison_80 : decode cX7_readComparison 80 = .ok (.invokevirtual 240, 3) := by decide +kernel
theorem dX7_readComparison_83 : decode cX7_readComparison 83 = .ok (.return_, 1) := by decide +kernel
def f_X7_readComparison_51 (g : Nat → Int32 → zz_Mem → Option zz_Mem)  (v1 : Int32) (s0 : Int32) (m : zz_Mem) : Option zz_Mem :=
  if s0 = (-1 : Int32) then (
  zz_bndR (f_X7_fail (2 : Int32) m) fun m4 =>
  some m4)
  else (
  zz_bndR (f_X7_next m) fun m1 =>
  zz_bndR (g 0 v1 m1) fun m2 =>
  zz_bndR (f_X3_add s0 m2) fun m3 =>
  some m3)
theorem t_X7_readComparison_51 {l : Launch} {G : zz_G} (hN : 107 ≤ zz_N G) {g : Nat → Int32 → zz_Mem → Option zz_Mem} {d : Nat} (hd0 : 7 ≤ d) (hg0 : ∀ (q1 : Int32) (m : zz_Mem), zz_Con zz_sh l G mX7_readSum d [.ref (zz_a G 30), .int q1] zz_vV zz_mV (g 0 q1 m) m)  : ∀ (v1 : Int32) (s0 : Int32) (m : zz_Mem), zz_Sim zz_sh l G mX7_readComparison (d + 1) zz_vV zz_mV (f_X7_readComparison_51 g v1 s0 m) 51 [(0, .ref (zz_a G 30)), (1, .int v1)] [.int s0] m := by
  intro v1 s0 m
  unfold f_X7_readComparison_51
  refine zs_istore_n [(2, .int s0), (0, .ref (zz_a G 30)), (1, .int v1)] dX7_readComparison_51 rfl (Nat.le_of_ble_eq_true rfl) rfl ?_
  refine zs_iload_n dX7_readComparison_52 rfl 0 rfl ?_
  refine zs_iconst (v := (-1 : Int32)) dX7_readComparison_53 ci_m1 ?_
  refine zs_icmp_ne (tgt := 63) dX7_readComparison_54 (by decide) ?_ ?_
  · refine zs_aload_n dX7_readComparison_63 rfl 1 rfl ?_
    refine zs_cV_vW (rest := []) (k_X7_next hN  _) dX7_readComparison_64 lv_X7_46 ok_X7_next (zz_rcv_o (sh_30 hN) rfl) (by omega) rfl rfl (Nat.le_of_ble_eq_true rfl) (fun m1 => ?_)
    refine zs_aload_n dX7_readComparison_67 rfl 1 rfl ?_
    refine zs_iload_n dX7_readComparison_68 rfl 2 rfl ?_
    refine zs_cV_vW (rest := []) (hg0 _ _) dX7_readComparison_69 lv_X7_222 ok_X7_readSum (zz_rcv_o (sh_30 hN) rfl) (Nat.le_refl _) rfl rfl (Nat.le_of_ble_eq_true rfl) (fun m2 => ?_)
    refine zs_aload_n dX7_readComparison_72 rfl 1 rfl ?_
    refine zs_getR fl_X7_19 dX7_readComparison_73 (sh_30 hN) rfl ?_
    refine zs_getR fl_X7_212 dX7_readComparison_76 (sh_16 hN) rfl ?_
    refine zs_iload_n dX7_readComparison_79 rfl 0 rfl ?_
    refine zs_cV_vW (rest := []) (k_X3_add hN _ _) dX7_readComparison_80 lv_X7_240 ok_X3_add (zz_rcv_o (sh_23 hN) rfl) (by omega) rfl rfl (Nat.le_of_ble_eq_true rfl) (fun m3 => ?_)
    exact zs_vret dX7_readComparison_83 rfl rfl rfl
  · refine zs_aload_n dX7_readComparison_57 rfl 1 rfl ?_
    refine zs_iconst (v := (2 : Int32)) dX7_readComparison_58 ci_2 ?_
    refine zs_cV_vW (rest := []) (k_X7_fail hN _ _) dX7_readComparison_59 lv_X7_85 ok_X7_fail (zz_rcv_o (sh_30 hN) rfl) (by omega) rfl rfl (Nat.le_of_ble_eq_true rfl) (fun m4 => ?_)
    exact zs_vret dX7_readComparison_62 rfl rfl rfl
def f_X7_readComparison (g : Nat → Int32 → zz_Mem → Option zz_Mem) (p1 : Int32) (m : zz_Mem) : Option zz_Mem :=
  zz_bndR (g 0 p1 m) fun m1 =>
  if (m1.1 30 4) = (61 : Int32) then (
  f_X7_readComparison_51 g p1 (2003 : Int32) m1)
  else (
  if (m1.1 30 4) = (60 : Int32) then (
  f_X7_readComparison_51 g p1 (2004 : Int32) m1)
  else (
  if (m1.1 30 4) = (62 : Int32) then (
  f_X7_readComparison_51 g p1 (2005 : Int32) m1)
  else (
  f_X7_readComparison_51 g p1 (-1 : Int32) m1)))
theorem k_X7_readComparison {l : Launch} {G : zz_G} (hN : 107 ≤ zz_N G) {g : Nat → Int32 → zz_Mem → Option zz_Mem} {d : Nat} (hd0 : 7 ≤ d) (hg0 : ∀ (q1 : Int32) (m : zz_Mem), zz_Con zz_sh l G mX7_readSum d [.ref (zz_a G 30), .int q1] zz_vV zz_mV (g 0 q1 m) m) : ∀ (p1 : Int32) (m : zz_Mem), zz_Con zz_sh l G mX7_readComparison (d + 1) [.ref (zz_a G 30), .int p1] zz_vV zz_mV (f_X7_readComparison g p1 m) m := by
  intro p1 m
  refine zz_con (lv := [(0, .ref (zz_a G 30)), (1, .int p1)]) (by decide +kernel) (Nat.le_of_ble_eq_true rfl) rfl ?_
  unfold f_X7_readComparison
  refine zs_aload_n dX7_readComparison_0 rfl 0 rfl ?_
  refine zs_iload_n dX7_readComparison_1 rfl 1 rfl ?_
  refine zs_cV_vW (rest := []) (hg0 _ _) dX7_readComparison_2 lv_X7_222 ok_X7_readSum (zz_rcv_o (sh_30 hN) rfl) (Nat.le_refl _) rfl rfl (Nat.le_of_ble_eq_true rfl) (fun m1 => ?_)
  refine zs_aload_n dX7_readComparison_5 rfl 0 rfl ?_
  refine zs_getI fl_X7_52 dX7_readComparison_6 (sh_30 hN) rfl ?_
  refine zs_bipush (v := (61 : Int32)) dX7_readComparison_9 cb_61 ?_
  refine zs_icmp_ne (tgt := 20) dX7_readComparison_11 (by decide) ?_ ?_
  · refine zs_aload_n dX7_readComparison_20 rfl 0 rfl ?_
    refine zs_getI fl_X7_52 dX7_readComparison_21 (sh_30 hN) rfl ?_
    refine zs_bipush (v := (60 : Int32)) dX7_readComparison_24 cb_60 ?_
    refine zs_icmp_ne (tgt := 35) dX7_readComparison_26 (by decide) ?_ ?_
    · refine zs_aload_n dX7_readComparison_35 rfl 0 rfl ?_
      refine zs_getI fl_X7_52 dX7_readComparison_36 (sh_30 hN) rfl ?_
      refine zs_bipush (v := (62 : Int32)) dX7_readComparison_39 cb_62 ?_
      refine zs_icmp_ne (tgt := 50) dX7_readComparison_41 (by decide) ?_ ?_
      · refine zs_iconst (v := (-1 : Int32)) dX7_readComparison_50 ci_m1 ?_
        exact t_X7_readComparison_51 hN hd0 hg0 _ _ _
      · refine zs_sipush (v := (2005 : Int32)) dX7_readComparison_44 cs_2005 ?_
        refine zs_goto (tgt := 51) dX7_readComparison_47 (by decide) ?_
        exact t_X7_readComparison_51 hN hd0 hg0 _ _ _
    · refine zs_sipush (v := (2004 : Int32)) dX7_readComparison_29 cs_2004 ?_
      refine zs_goto (tgt := 51) dX7_readComparison_32 (by decide) ?_
      exact t_X7_readComparison_51 hN hd0 hg0 _ _ _
  · refine zs_sipush (v := (2003 : Int32)) dX7_readComparison_14 cs_2003 ?_
    refine zs_goto (tgt := 51) dX7_readComparison_17 (by decide) ?_
    exact t_X7_readComparison_51 hN hd0 hg0 _ _ _
def grp_X7 : Nat → Nat → Int32 → zz_Mem → Option zz_Mem
  | 0 => fun _ _ _ => none
  | n + 1 => fun i => match i with
    | 0 => f_X7_readSum (grp_X7 n)
    | 1 => f_X7_readTerm (grp_X7 n)
    | 2 => f_X7_readAtom (grp_X7 n)
    | 3 => f_X7_readChoice (grp_X7 n)
    | 4 => f_X7_readTruth (grp_X7 n)
    | 5 => f_X7_readBoth (grp_X7 n)
    | 6 => f_X7_readUnit (grp_X7 n)
    | _ => f_X7_readComparison (grp_X7 n)
theorem grp_X7_ok {l : Launch} {G : zz_G} (hN : 107 ≤ zz_N G) : ∀ n : Nat, (∀ (q1 : Int32) (m : zz_Mem), zz_Con zz_sh l G mX7_readSum (7 + n) [.ref (zz_a G 30), .int q1] zz_vV zz_mV (grp_X7 n 0 q1 m) m) ∧ (∀ (q1 : Int32) (m : zz_Mem), zz_Con zz_sh l G mX7_readTerm (7 + n) [.ref (zz_a G 30), .int q1] zz_vV zz_mV (grp_X7 n 1 q1 m) m) ∧ (∀ (q1 : Int32) (m : zz_Mem), zz_Con zz_sh l G mX7_readAtom (7 + n) [.ref (zz_a G 30), .int q1] zz_vV zz_mV (grp_X7 n 2 q1 m) m) ∧ (∀ (q1 : Int32) (m : zz_Mem), zz_Con zz_sh l G mX7_readChoice (7 + n) [.ref (zz_a G 30), .int q1] zz_vV zz_mV (grp_X7 n 3 q1 m) m) ∧ (∀ (q1 : Int32) (m : zz_Mem), zz_Con zz_sh l G mX7_readTruth (7 + n) [.ref (zz_a G 30), .int q1] zz_vV zz_mV (grp_X7 n 4 q1 m) m) ∧ (∀ (q1 : Int32) (m : zz_Mem), zz_Con zz_sh l G mX7_readBoth (7 + n) [.ref (zz_a G 30), .int q1] zz_vV zz_mV (grp_X7 n 5 q1 m) m) ∧ (∀ (q1 : Int32) (m : zz_Mem), zz_Con zz_sh l G mX7_readUnit (7 + n) [.ref (zz_a G 30), .int q1] zz_vV zz_mV (grp_X7 n 6 q1 m) m) ∧ (∀ (q1 : Int32) (m : zz_Mem), zz_Con zz_sh l G mX7_readComparison (7 + n) [.ref (zz_a G 30), .int q1] zz_vV zz_mV (grp_X7 n 7 q1 m) m) := by
  intro n
  induction n with
  | zero => exact ⟨fun _ _ _ h => (by have h' : none = some _ := h; cases h'), fun _ _ _ h => (by have h' : none = some _ := h; cases h'), fun _ _ _ h => (by have h' : none = some _ := h; cases h'), fun _ _ _ h => (by have h' : none = some _ := h; cases h'), fun _ _ _ h => (by have h' : none = some _ := h; cases h'), fun _ _ _ h => (by have h' : none = some _ := h; cases h'), fun _ _ _ h => (by have h' : none = some _ := h; cases h'), fun _ _ _ h => (by have h' : none = some _ := h; cases h')⟩
  | succ n ih =>
    exact ⟨k_X7_readSum hN (Nat.le_add_right _ _) (ih.2.1), k_X7_readTerm hN (Nat.le_add_right _ _) (ih.2.2.1), k_X7_readAtom hN (Nat.le_add_right _ _) (ih.1) (ih.2.2.2.1), k_X7_readChoice hN (Nat.le_add_right _ _) (ih.1) (ih.2.2.2.2.1), k_X7_readTruth hN (Nat.le_add_right _ _) (ih.2.2.2.2.2.1), k_X7_readBoth hN (Nat.le_add_right _ _) (ih.2.2.2.2.2.2.1), k_X7_readUnit hN (Nat.le_add_right _ _) (ih.2.2.2.2.1) (ih.2.2.2.2.2.2.1) (ih.2.2.2.2.2.2.2), k_X7_readComparison hN (Nat.le_add_right _ _) (ih.1)⟩
def F_X7_readSum (q1 : Int32) (m : zz_Mem) : Option zz_Mem := grp_X7 60 0 q1 m
theorem K_X7_readSum {l : Launch} {G : zz_G} (hN : 107 ≤ zz_N G) : ∀ (q1 : Int32) (m : zz_Mem), zz_Con zz_sh l G mX7_readSum 67 [.ref (zz_a G 30), .int q1] zz_vV zz_mV (F_X7_readSum q1 m) m := (grp_X7_ok hN 60).1
def F_X7_readTerm (q1 : Int32) (m : zz_Mem) : Option zz_Mem := grp_X7 60 1 q1 m
theorem K_X7_readTerm {l : Launch} {G : zz_G} (hN : 107 ≤ zz_N G) : ∀ (q1 : Int32) (m : zz_Mem), zz_Con zz_sh l G mX7_readTerm 67 [.ref (zz_a G 30), .int q1] zz_vV zz_mV (F_X7_readTerm q1 m) m := (grp_X7_ok hN 60).2.1
def F_X7_readAtom (q1 : Int32) (m : zz_Mem) : Option zz_Mem := grp_X7 60 2 q1 m
theorem K_X7_readAtom {l : Launch} {G : zz_G} (hN : 107 ≤ zz_N G) : ∀ (q1 : Int32) (m : zz_Mem), zz_Con zz_sh l G mX7_readAtom 67 [.ref (zz_a G 30), .int q1] zz_vV zz_mV (F_X7_readAtom q1 m) m := (grp_X7_ok hN 60).2.2.1
def F_X7_readChoice (q1 : Int32) (m : zz_Mem) : Option zz_Mem := grp_X7 60 3 q1 m
theorem K_X7_readChoice {l : Launch} {G : zz_G} (hN : 107 ≤ zz_N G) : ∀ (q1 : Int32) (m : zz_Mem), zz_Con zz_sh l G mX7_readChoice 67 [.ref (zz_a G 30), .int q1] zz_vV zz_mV (F_X7_readChoice q1 m) m := (grp_X7_ok hN 60).2.2.2.1
def F_X7_readTruth (q1 : Int32) (m : zz_Mem) : Option zz_Mem := grp_X7 60 4 q1 m
theorem K_X7_readTruth {l : Launch} {G : zz_G} (hN : 107 ≤ zz_N G) : ∀ (q1 : Int32) (m : zz_Mem), zz_Con zz_sh l G mX7_readTruth 67 [.ref (zz_a G 30), .int q1] zz_vV zz_mV (F_X7_readTruth q1 m) m := (grp_X7_ok hN 60).2.2.2.2.1
def F_X7_readBoth (q1 : Int32) (m : zz_Mem) : Option zz_Mem := grp_X7 60 5 q1 m
theorem K_X7_readBoth {l : Launch} {G : zz_G} (hN : 107 ≤ zz_N G) : ∀ (q1 : Int32) (m : zz_Mem), zz_Con zz_sh l G mX7_readBoth 67 [.ref (zz_a G 30), .int q1] zz_vV zz_mV (F_X7_readBoth q1 m) m := (grp_X7_ok hN 60).2.2.2.2.2.1
def F_X7_readUnit (q1 : Int32) (m : zz_Mem) : Option zz_Mem := grp_X7 60 6 q1 m
theorem K_X7_readUnit {l : Launch} {G : zz_G} (hN : 107 ≤ zz_N G) : ∀ (q1 : Int32) (m : zz_Mem), zz_Con zz_sh l G mX7_readUnit 67 [.ref (zz_a G 30), .int q1] zz_vV zz_mV (F_X7_readUnit q1 m) m := (grp_X7_ok hN 60).2.2.2.2.2.2.1
def F_X7_readComparison (q1 : Int32) (m : zz_Mem) : Option zz_Mem := grp_X7 60 7 q1 m
theorem K_X7_readComparison {l : Launch} {G : zz_G} (hN : 107 ≤ zz_N G) : ∀ (q1 : Int32) (m : zz_Mem), zz_Con zz_sh l G mX7_readComparison 67 [.ref (zz_a G 30), .int q1] zz_vV zz_mV (F_X7_readComparison q1 m) m := (grp_X7_ok hN 60).2.2.2.2.2.2.2
