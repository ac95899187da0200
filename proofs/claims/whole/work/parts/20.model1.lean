/-! ===== models and walks: 20.model1 ===== -/
/-! X12_within: PillarDeskModel.within(JJJ)Z -/
theorem dX12_within_0 : decode cX12_within 0 = .ok (.lload_n 0, 1) := by decide +kernel
theorem dX12_within_1 : decode cX12_within 1 = .ok (.lload_n 2, 1) := by decide +kernel
theorem dX12_within_2 : decode cX12_within 2 = .ok (.lcmp, 1) := by decide +kernel
theorem dX12_within_3 : decode cX12_within 3 = .ok (.ifCond .lt 14, 3) := by decide +kernel
theorem dX12_within_6 : decode cX12_within 6 = .ok (.lload_n 0, 1) := by decide +kernel
theorem dX12_within_7 : decode cX12_within 7 = .ok (.lload 4, 2) := by decide +kernel
theorem dX12_within_9 : decode cX12_within 9 = .ok (.lcmp, 1) := by decide +kernel
theorem dX12_within_10 : decode cX12_within 10 = .ok (.ifCond .gt 7, 3) := by decide +kernel
theorem dX12_within_13 : decode cX12_within 13 = .ok (.iconst 1, 1) := by decide +kernel
theorem dX12_within_14 : decode cX12_within 14 = .ok (.goto 4, 3) := by decide +kernel
theorem dX12_within_17 : decode cX12_within 17 = .ok (.iconst 0, 1) := by decide +kernel
theorem dX12_within_18 : decode cX12_within 18 = .ok (.ireturn, 1) := by decide +kernel
def f_X12_within  (p0 : Int64) (p2 : Int64) (p4 : Int64) : Option Int32 :=
  if p0 < p2 then (
  some (0 : Int32))
  else (
  if p4 < p0 then (
  some (0 : Int32))
  else (
  some (1 : Int32)))
theorem k_X12_within {l : Launch} {G : zz_G} (hN : 26 ≤ zz_N G) : ∀ (p0 : Int64) (p2 : Int64) (p4 : Int64) (m : zz_Mem), zz_Con zz_shM l G mX12_within 0 [.long p0, .long p2, .long p4] zz_vIr (zz_mC m) (f_X12_within p0 p2 p4) m := by
  intro p0 p2 p4 m
  refine zz_con (lv := [(0, .long p0), (2, .long p2), (4, .long p4)]) (by decide +kernel) (Nat.le_of_ble_eq_true rfl) rfl ?_
  unfold f_X12_within
  refine zs_lload_n dX12_within_0 rfl 0 rfl ?_
  refine zs_lload_n dX12_within_1 rfl 1 rfl ?_
  refine zs_lcmp_lt (tgt := 17) dX12_within_2 dX12_within_3 (by decide) ?_ ?_
  · refine zs_iconst (v := (0 : Int32)) dX12_within_17 ci_0 ?_
    exact zs_zret dX12_within_18 rfl rfl rfl rfl
  · refine zs_lload_n dX12_within_6 rfl 0 rfl ?_
    refine zs_lload dX12_within_7 2 rfl ?_
    refine zs_lcmp_gt (tgt := 17) dX12_within_9 dX12_within_10 (by decide) ?_ ?_
    · refine zs_iconst (v := (0 : Int32)) dX12_within_17 ci_0 ?_
      exact zs_zret dX12_within_18 rfl rfl rfl rfl
    · refine zs_iconst (v := (1 : Int32)) dX12_within_13 ci_1 ?_
      refine zs_goto (tgt := 18) dX12_within_14 (by decide) ?_
      exact zs_zret dX12_within_18 rfl rfl rfl rfl
/-! X12_plain: PillarDeskModel.plain([I)V -/
theorem dX12_plain_0 : decode cX12_plain 0 = .ok (.iconst 0, 1) := by decide +kernel
theorem dX12_plain_1 : decode cX12_plain 1 = .ok (.istore_n 1, 1) := by decide +kernel
theorem dX12_plain_2 : decode cX12_plain 2 = .ok (.iload_n 1, 1) := by decide +kernel
theorem dX12_plain_3 : decode cX12_plain 3 = .ok (.sipush 1177, 3) := by decide +kernel
theorem dX12_plain_6 : decode cX12_plain 6 = .ok (.if_icmp .ge 13, 3) := by decide +kernel
theorem dX12_plain_9 : decode cX12_plain 9 = .ok (.aload_n 0, 1) := by decide +kernel
theorem dX12_plain_10 : decode cX12_plain 10 = .ok (.iload_n 1, 1) := by decide +kernel
theorem dX12_plain_11 : decode cX12_plain 11 = .ok (.iconst 0, 1) := by decide +kernel
theorem dX12_plain_12 : decode cX12_plain 12 = .ok (.iastore, 1) := by decide +kernel
theorem dX12_plain_13 : decode cX12_plain 13 = .ok (.iinc 1 1, 3) := by decide +kernel
theorem dX12_plain_16 : decode cX12_plain 16 = .ok (.goto (-14), 3) := by decide +kernel
theorem dX12_plain_19 : decode cX12_plain 19 = .ok (.return_, 1) := by decide +kernel
def f_X12_plain_2 (a0 : Nat) (na0 : Nat)  : Nat → Int32 → zz_Mem → Option zz_Mem
  | 0, _, _ => none
  | n + 1, v1, m =>
  if (1177 : Int32) ≤ v1 then (
  some m)
  else (
  zz_ix v1 na0 <| zz_letM (zz_setI m a0 v1.toNatClampNeg (0 : Int32)) fun m1 =>
  zz_letI (v1 + (1 : Int32)) fun x2 =>
  f_X12_plain_2 a0 na0 n x2 m1)
theorem t_X12_plain_2 {l : Launch} {G : zz_G} (hN : 26 ≤ zz_N G) {a0 : Nat} {na0 : Nat} (ha0 : zz_SH zz_shM G a0 (0, na0, []))  : ∀ (n : Nat) (v1 : Int32) (m : zz_Mem), zz_Sim zz_shM l G mX12_plain 0 zz_vV zz_mV (f_X12_plain_2 a0 na0 n v1 m) 2 [(0, .ref (zz_a G a0)), (1, .int v1)] [] m := by
  intro n
  induction n with
  | zero => intro _ _; exact zs_none
  | succ n ih =>
    intro v1 m
    rw [f_X12_plain_2]
    refine zs_iload_n dX12_plain_2 rfl 1 rfl ?_
    refine zs_sipush (v := (1177 : Int32)) dX12_plain_3 cs_1177 ?_
    refine zs_icmp_ge (tgt := 19) dX12_plain_6 (by decide) ?_ ?_
    · exact zs_vret dX12_plain_19 rfl rfl rfl
    · refine zs_aload_n dX12_plain_9 rfl 0 rfl ?_
      refine zs_iload_n dX12_plain_10 rfl 1 rfl ?_
      refine zs_iconst (v := (0 : Int32)) dX12_plain_11 ci_0 ?_
      refine zs_iastG dX12_plain_12 ha0 (fun m1 => ?_)
      refine zs_iinc (fun y => [(1, .int y), (0, .ref (zz_a G a0))]) dX12_plain_13 1 rfl ci_1 (Nat.le_of_ble_eq_true rfl) (fun _ => rfl) (fun x2 => ?_)
      refine zs_goto (tgt := 2) dX12_plain_16 (by decide) ?_
      refine zs_sub [1, 0] rfl ?_
      exact ih _ _
def f_X12_plain (a0 : Nat) (na0 : Nat)  (m : zz_Mem) : Option zz_Mem :=
  f_X12_plain_2 a0 na0 zz_fuel (0 : Int32) m
theorem k_X12_plain {l : Launch} {G : zz_G} (hN : 26 ≤ zz_N G) {a0 : Nat} {na0 : Nat} (ha0 : zz_SH zz_shM G a0 (0, na0, [])) : ∀ (m : zz_Mem), zz_Con zz_shM l G mX12_plain 0 [.ref (zz_a G a0)] zz_vV zz_mV (f_X12_plain a0 na0 m) m := by
  intro m
  refine zz_con (lv := [(0, .ref (zz_a G a0))]) (by decide +kernel) (Nat.le_of_ble_eq_true rfl) rfl ?_
  unfold f_X12_plain
  refine zs_iconst (v := (0 : Int32)) dX12_plain_0 ci_0 ?_
  refine zs_istore_n [(1, .int (0 : Int32)), (0, .ref (zz_a G a0))] dX12_plain_1 rfl (Nat.le_of_ble_eq_true rfl) rfl ?_
  refine zs_sub [1, 0] rfl ?_
  exact t_X12_plain_2 hN ha0 zz_fuel _ _
/-! X12_feed: PillarDeskModel.feed(IIIII)I -/
theorem dX12_feed_0 : decode cX12_feed 0 = .ok (.aload_n 0, 1) := by decide +kernel
theorem dX12_feed_1 : decode cX12_feed 1 = .ok (.iconst 0, 1) := by decide +kernel
theorem dX12_feed_2 : decode cX12_feed 2 = .ok (.putfield 1, 3) := by decide +kernel
theorem dX12_feed_5 : decode cX12_feed 5 = .ok (.aload_n 0, 1) := by decide +kernel
theorem dX12_feed_6 : decode cX12_feed 6 = .ok (.getfield 101, 3) := by decide +kernel
theorem dX12_feed_9 : decode cX12_feed 9 = .ok (.bipush 20, 2) := by decide +kernel
theorem dX12_feed_11 : decode cX12_feed 11 = .ok (.iadd, 1) := by decide +kernel
theorem dX12_feed_12 : decode cX12_feed 12 = .ok (.sipush 900, 3) := by decide +kernel
theorem dX12_feed_15 : decode cX12_feed 15 = .ok (.if_icmp .le 6, 3) := by decide +kernel
theorem dX12_feed_18 : decode cX12_feed 18 = .ok (.bipush (-5), 2) := by decide +kernel
theorem dX12_feed_20 : decode cX12_feed 20 = .ok (.ireturn, 1) := by decide +kernel
theorem dX12_feed_21 : decode cX12_feed 21 = .ok (.iconst 0, 1) := by decide +kernel
theorem dX12_feed_22 : decode cX12_feed 22 = .ok (.istore 6, 2) := by decide +kernel
theorem dX12_feed_24 : decode cX12_feed 24 = .ok (.iload 6, 2) := by decide +kernel
theorem dX12_feed_26 : decode cX12_feed 26 = .ok (.bipush 20, 2) := by decide +kernel
theorem dX12_feed_28 : decode cX12_feed 28 = .ok (.if_icmp .ge 93, 3) := by decide +kernel
theorem dX12_feed_31 : decode cX12_feed 31 = .ok (.iload 6, 2) := by decide +kernel
theorem dX12_feed_33 : decode cX12_feed 33 = .ok (.iconst 4, 1) := by decide +kernel
theorem dX12_feed_34 : decode cX12_feed 34 = .ok (.if_icmp .ge 7, 3) := by decide +kernel
theorem dX12_feed_37 : decode cX12_feed 37 = .ok (.iload_n 1, 1) := by decide +kernel
theorem dX12_feed_38 : decode cX12_feed 38 = .ok (.goto 39, 3) := by decide +kernel
theorem dX12_feed_41 : decode cX12_feed 41 = .ok (.iload 6, 2) := by decide +kernel
theorem dX12_feed_43 : decode cX12_feed 43 = .ok (.bipush 8, 2) := by decide +kernel
theorem dX12_feed_45 : decode cX12_feed 45 = .ok (.if_icmp .ge 7, 3) := by decide +kernel
theorem dX12_feed_48 : decode cX12_feed 48 = .ok (.iload_n 2, 1) := by decide +kernel
theorem dX12_feed_49 : decode cX12_feed 49 = .ok (.goto 28, 3) := by decide +kernel
theorem dX12_feed_52 : decode cX12_feed 52 = .ok (.iload 6, 2) := by decide +kernel
theorem dX12_feed_54 : decode cX12_feed 54 = .ok (.bipush 12, 2) := by decide +kernel
theorem dX12_feed_56 : decode cX12_feed 56 = .ok (.if_icmp .ge 7, 3) := by decide +kernel
theorem dX12_feed_59 : decode cX12_feed 59 = .ok (.iload_n 3, 1) := by decide +kernel
theorem dX12_feed_60 : decode cX12_feed 60 = .ok (.goto 17, 3) := by decide +kernel
theorem dX12_feed_63 : decode cX12_feed 63 = .ok (.iload 6, 2) := by decide +kernel
theorem dX12_feed_65 : decode cX12_feed 65 = .ok (.bipush 16, 2) := by decide +kernel
theorem dX12_feed_67 : decode cX12_feed 67 = .ok (.if_icmp .ge 8, 3) := by decide +kernel
theorem dX12_feed_70 : decode cX12_feed 70 = .ok (.iload 4, 2) := by decide +kernel
theorem dX12_feed_72 : decode cX12_feed 72 = .ok (.goto 5, 3) := by decide +kernel
theorem dX12_feed_75 : decode cX12_feed 75 = .ok (.iload 5, 2) := by decide +kernel
theorem dX12_feed_77 : decode cX12_feed 77 = .ok (.istore 7, 2) := by decide +kernel
theorem dX12_feed_79 : decode cX12_feed 79 = .ok (.aload_n 0, 1) := by decide +kernel
theorem dX12_feed_80 : decode cX12_feed 80 = .ok (.getfield 21, 3) := by decide +kernel
theorem dX12_feed_83 : decode cX12_feed 83 = .ok (.aload_n 0, 1) := by decide +kernel
theorem dX12_feed_84 : decode cX12_feed 84 = .ok (.getfield 101, 3) := by decide +kernel
theorem dX12_feed_87 : decode cX12_feed 87 = .ok (.iload 7, 2) := by decide +kernel
theorem dX12_feed_89 : decode cX12_feed 89 = .ok (.bipush 24, 2) := by decide +kernel
theorem dX12_feed_91 : decode cX12_feed 91 = .ok (.bipush 8, 2) := by decide +kernel
theorem dX12_feed_93 : decode cX12_feed 93 = .ok (.iload 6, 2) := by decide +kernel
theorem dX12_feed_95 : decode cX12_feed 95 = .ok (.iconst 4, 1) := by decide +kernel
theorem dX12_feed_96 : decode cX12_feed 96 = .ok (.irem, 1) := by decide +kernel
theorem dX12_feed_97 : decode cX12_feed 97 = .ok (.imul, 1) := by decide +kernel
theorem dX12_feed_98 : decode cX12_feed 98 = .ok (.isub, 1) := by decide +kernel
theorem dX12_feed_99 : decode cX12_feed 99 = .ok (.ishr, 1) := by decide +kernel
theorem dX12_feed_100 : decode cX12_feed 100 = .ok (.sipush 255, 3) := by decide +kernel
theorem dX12_feed_103 : decode cX12_feed 103 = .ok (.iand, 1) := by decide +kernel
theorem dX12_feed_104 : decode cX12_feed 104 = .ok (.iastore, 1) := by decide +kernel
theorem dX12_feed_105 : decode cX12_feed 105 = .ok (.aload_n 0, 1) := by decide +kernel
theorem dX12_feed_106 : decode cX12_feed 106 = .ok (.dup, 1) := by decide +kernel
theorem dX12_feed_107 : decode cX12_feed 107 = .ok (.getfield 101, 3) := by decide +kernel
theorem dX12_feed_110 : decode cX12_feed 110 = .ok (.iconst 1, 1) := by decide +kernel
theorem dX12_feed_111 : decode cX12_feed 111 = .ok (.iadd, 1) := by decide +kernel
theorem dX12_feed_112 : decode cX12_feed 112 = .ok (.putfield 101, 3) := by decide +kernel
theorem dX12_feed_115 : decode cX12_feed 115 = .ok (.iinc 6 1, 3) := by decide +kernel
theorem dX12_feed_118 : decode cX12_feed 118 = .ok (.goto (-94), 3) := by decide +kernel
theorem dX12_feed_121 : decode cX12_feed 121 = .ok (.aload_n 0, 1) := by decide +kernel
theorem dX12_feed_122 : decode cX12_feed 122 = .ok (.getfield 101, 3) := by decide +kernel
theorem dX12_feed_125 : decode cX12_feed 125 = .ok (.ireturn, 1) := by decide +kernel
def f_X12_feed_77  (k24 : Int32 → Int32 → Int32 → Int32 → Int32 → Int32 → zz_Mem → Option (Int32 × zz_Mem)) (v1 : Int32) (v2 : Int32) (v3 : Int32) (v4 : Int32) (v5 : Int32) (v6 : Int32) (s0 : Int32) (m : zz_Mem) : Option (Int32 × zz_Mem) :=
  zz_ix (m.1 0 5) 900 <| zz_letM (zz_setI m 3 (m.1 0 5).toNatClampNeg ((s0 >>> (((24 : Int32) - ((8 : Int32) * (v6 - v6 / (4 : Int32) * (4 : Int32)))) &&& 31)) &&& (255 : Int32))) fun m1 =>
  zz_letM (zz_setI m1 0 5 ((m1.1 0 5) + (1 : Int32))) fun m2 =>
  zz_letI (v6 + (1 : Int32)) fun x3 =>
  k24 v1 v2 v3 v4 v5 x3 m2
theorem t_X12_feed_77 {l : Launch} {G : zz_G} (hN : 26 ≤ zz_N G) {k24 : Int32 → Int32 → Int32 → Int32 → Int32 → Int32 → zz_Mem → Option (Int32 × zz_Mem)} (hk24 : ∀ (v1 : Int32) (v2 : Int32) (v3 : Int32) (v4 : Int32) (v5 : Int32) (v6 : Int32) (m : zz_Mem), zz_Sim zz_shM l G mX12_feed 0 zz_vI zz_m2 (k24 v1 v2 v3 v4 v5 v6 m) 24 [(0, .ref (zz_a G 0)), (1, .int v1), (2, .int v2), (3, .int v3), (4, .int v4), (5, .int v5), (6, .int v6)] [] m) : ∀ (v1 : Int32) (v2 : Int32) (v3 : Int32) (v4 : Int32) (v5 : Int32) (v6 : Int32) (s0 : Int32) (m : zz_Mem), zz_Sim zz_shM l G mX12_feed 0 zz_vI zz_m2 (f_X12_feed_77 k24 v1 v2 v3 v4 v5 v6 s0 m) 77 [(0, .ref (zz_a G 0)), (1, .int v1), (2, .int v2), (3, .int v3), (4, .int v4), (5, .int v5), (6, .int v6)] [.int s0] m := by
  intro v1 v2 v3 v4 v5 v6 s0 m
  unfold f_X12_feed_77
  refine zs_istore [(7, .int s0), (0, .ref (zz_a G 0)), (1, .int v1), (2, .int v2), (3, .int v3), (4, .int v4), (5, .int v5), (6, .int v6)] dX12_feed_77 (Nat.le_of_ble_eq_true rfl) rfl ?_
  refine zs_aload_n dX12_feed_79 rfl 1 rfl ?_
  refine zs_getR fl_X12_21 dX12_feed_80 (shm_0 hN) rfl ?_
  refine zs_aload_n dX12_feed_83 rfl 1 rfl ?_
  refine zs_getI fl_X12_101 dX12_feed_84 (shm_0 hN) rfl ?_
  refine zs_iload dX12_feed_87 0 rfl ?_
  refine zs_bipush (v := (24 : Int32)) dX12_feed_89 cb_24 ?_
  refine zs_bipush (v := (8 : Int32)) dX12_feed_91 cb_8 ?_
  refine zs_iload dX12_feed_93 7 rfl ?_
  refine zs_iconst (v := (4 : Int32)) dX12_feed_95 ci_4 ?_
  refine zs_irem dX12_feed_96 (by decide) ?_
  refine zs_imul dX12_feed_97 ?_
  refine zs_isub dX12_feed_98 ?_
  refine zs_ishr dX12_feed_99 ?_
  refine zs_sipush (v := (255 : Int32)) dX12_feed_100 cs_255 ?_
  refine zs_iand dX12_feed_103 ?_
  refine zs_iastG dX12_feed_104 (shm_3 hN) (fun m1 => ?_)
  refine zs_aload_n dX12_feed_105 rfl 1 rfl ?_
  refine zs_dup dX12_feed_106 rfl ?_
  refine zs_getI fl_X12_101 dX12_feed_107 (shm_0 hN) rfl ?_
  refine zs_iconst (v := (1 : Int32)) dX12_feed_110 ci_1 ?_
  refine zs_iadd dX12_feed_111 ?_
  refine zs_putI fl_X12_101 dX12_feed_112 (shm_0 hN) rfl ⟨rfl, rfl⟩ (fun m2 => ?_)
  refine zs_iinc (fun y => [(6, .int y), (7, .int s0), (0, .ref (zz_a G 0)), (1, .int v1), (2, .int v2), (3, .int v3), (4, .int v4), (5, .int v5)]) dX12_feed_115 7 rfl ci_1 (Nat.le_of_ble_eq_true rfl) (fun _ => rfl) (fun x3 => ?_)
  refine zs_goto (tgt := 24) dX12_feed_118 (by decide) ?_
  refine zs_sub [2, 3, 4, 5, 6, 7, 0] rfl ?_
  exact hk24 _ _ _ _ _ _ _
def f_X12_feed_24   : Nat → Int32 → Int32 → Int32 → Int32 → Int32 → Int32 → zz_Mem → Option (Int32 × zz_Mem)
  | 0, _, _, _, _, _, _, _ => none
  | n + 1, v1, v2, v3, v4, v5, v6, m =>
  if (20 : Int32) ≤ v6 then (
  some (m.1 0 5, m))
  else (
  if (4 : Int32) ≤ v6 then (
  if (8 : Int32) ≤ v6 then (
  if (12 : Int32) ≤ v6 then (
  if (16 : Int32) ≤ v6 then (
  f_X12_feed_77 (f_X12_feed_24 n) v1 v2 v3 v4 v5 v6 v5 m)
  else (
  f_X12_feed_77 (f_X12_feed_24 n) v1 v2 v3 v4 v5 v6 v4 m))
  else (
  f_X12_feed_77 (f_X12_feed_24 n) v1 v2 v3 v4 v5 v6 v3 m))
  else (
  f_X12_feed_77 (f_X12_feed_24 n) v1 v2 v3 v4 v5 v6 v2 m))
  else (
  f_X12_feed_77 (f_X12_feed_24 n) v1 v2 v3 v4 v5 v6 v1 m))
theorem t_X12_feed_24 {l : Launch} {G : zz_G} (hN : 26 ≤ zz_N G)  : ∀ (n : Nat) (v1 : Int32) (v2 : Int32) (v3 : Int32) (v4 : Int32) (v5 : Int32) (v6 : Int32) (m : zz_Mem), zz_Sim zz_shM l G mX12_feed 0 zz_vI zz_m2 (f_X12_feed_24 n v1 v2 v3 v4 v5 v6 m) 24 [(0, .ref (zz_a G 0)), (1, .int v1), (2, .int v2), (3, .int v3), (4, .int v4), (5, .int v5), (6, .int v6)] [] m := by
  intro n
  induction n with
  | zero => intro _ _ _ _ _ _ _; exact zs_none
  | succ n ih =>
    intro v1 v2 v3 v4 v5 v6 m
    rw [f_X12_feed_24]
    refine zs_iload dX12_feed_24 6 rfl ?_
    refine zs_bipush (v := (20 : Int32)) dX12_feed_26 cb_20 ?_
    refine zs_icmp_ge (tgt := 121) dX12_feed_28 (by decide) ?_ ?_
    · refine zs_aload_n dX12_feed_121 rfl 0 rfl ?_
      refine zs_getI fl_X12_101 dX12_feed_122 (shm_0 hN) rfl ?_
      exact zs_iret dX12_feed_125 rfl rfl rfl
    · refine zs_iload dX12_feed_31 6 rfl ?_
      refine zs_iconst (v := (4 : Int32)) dX12_feed_33 ci_4 ?_
      refine zs_icmp_ge (tgt := 41) dX12_feed_34 (by decide) ?_ ?_
      · refine zs_iload dX12_feed_41 6 rfl ?_
        refine zs_bipush (v := (8 : Int32)) dX12_feed_43 cb_8 ?_
        refine zs_icmp_ge (tgt := 52) dX12_feed_45 (by decide) ?_ ?_
        · refine zs_iload dX12_feed_52 6 rfl ?_
          refine zs_bipush (v := (12 : Int32)) dX12_feed_54 cb_12 ?_
          refine zs_icmp_ge (tgt := 63) dX12_feed_56 (by decide) ?_ ?_
          · refine zs_iload dX12_feed_63 6 rfl ?_
            refine zs_bipush (v := (16 : Int32)) dX12_feed_65 cb_16 ?_
            refine zs_icmp_ge (tgt := 75) dX12_feed_67 (by decide) ?_ ?_
            · refine zs_iload dX12_feed_75 5 rfl ?_
              exact t_X12_feed_77 hN ih _ _ _ _ _ _ _ _
            · refine zs_iload dX12_feed_70 4 rfl ?_
              refine zs_goto (tgt := 77) dX12_feed_72 (by decide) ?_
              exact t_X12_feed_77 hN ih _ _ _ _ _ _ _ _
          · refine zs_iload_n dX12_feed_59 rfl 3 rfl ?_
            refine zs_goto (tgt := 77) dX12_feed_60 (by decide) ?_
            exact t_X12_feed_77 hN ih _ _ _ _ _ _ _ _
        · refine zs_iload_n dX12_feed_48 rfl 2 rfl ?_
          refine zs_goto (tgt := 77) dX12_feed_49 (by decide) ?_
          exact t_X12_feed_77 hN ih _ _ _ _ _ _ _ _
      · refine zs_iload_n dX12_feed_37 rfl 1 rfl ?_
        refine zs_goto (tgt := 77) dX12_feed_38 (by decide) ?_
        exact t_X12_feed_77 hN ih _ _ _ _ _ _ _ _
def f_X12_feed  (p1 : Int32) (p2 : Int32) (p3 : Int32) (p4 : Int32) (p5 : Int32) (m : zz_Mem) : Option (Int32 × zz_Mem) :=
  zz_letM (zz_setI m 0 0 (0 : Int32)) fun m1 =>
  if ((m1.1 0 5) + (20 : Int32)) ≤ (900 : Int32) then (
  f_X12_feed_24 zz_fuel p1 p2 p3 p4 p5 (0 : Int32) m1)
  else (
  some ((-5 : Int32), m1))
theorem k_X12_feed {l : Launch} {G : zz_G} (hN : 26 ≤ zz_N G) : ∀ (p1 : Int32) (p2 : Int32) (p3 : Int32) (p4 : Int32) (p5 : Int32) (m : zz_Mem), zz_Con zz_shM l G mX12_feed 0 [.ref (zz_a G 0), .int p1, .int p2, .int p3, .int p4, .int p5] zz_vI zz_m2 (f_X12_feed p1 p2 p3 p4 p5 m) m := by
  intro p1 p2 p3 p4 p5 m
  refine zz_con (lv := [(0, .ref (zz_a G 0)), (1, .int p1), (2, .int p2), (3, .int p3), (4, .int p4), (5, .int p5)]) (by decide +kernel) (Nat.le_of_ble_eq_true rfl) rfl ?_
  unfold f_X12_feed
  refine zs_aload_n dX12_feed_0 rfl 0 rfl ?_
  refine zs_iconst (v := (0 : Int32)) dX12_feed_1 ci_0 ?_
  refine zs_putI fl_X12_1 dX12_feed_2 (shm_0 hN) rfl ⟨rfl, rfl⟩ (fun m1 => ?_)
  refine zs_aload_n dX12_feed_5 rfl 0 rfl ?_
  refine zs_getI fl_X12_101 dX12_feed_6 (shm_0 hN) rfl ?_
  refine zs_bipush (v := (20 : Int32)) dX12_feed_9 cb_20 ?_
  refine zs_iadd dX12_feed_11 ?_
  refine zs_sipush (v := (900 : Int32)) dX12_feed_12 cs_900 ?_
  refine zs_icmp_le (tgt := 21) dX12_feed_15 (by decide) ?_ ?_
  · refine zs_iconst (v := (0 : Int32)) dX12_feed_21 ci_0 ?_
    refine zs_istore [(6, .int (0 : Int32)), (0, .ref (zz_a G 0)), (1, .int p1), (2, .int p2), (3, .int p3), (4, .int p4), (5, .int p5)] dX12_feed_22 (Nat.le_of_ble_eq_true rfl) rfl ?_
    refine zs_sub [1, 2, 3, 4, 5, 6, 0] rfl ?_
    exact t_X12_feed_24 hN zz_fuel _ _ _ _ _ _ _
  · refine zs_bipush (v := (-5 : Int32)) dX12_feed_18 cb_m5 ?_
    exact zs_iret dX12_feed_20 rfl rfl rfl
/-! X12_see: PillarDeskModel.see(I)I -/
theorem dX12_see_0 : decode cX12_see 0 = .ok (.iload_n 1, 1) := by decide +kernel
theorem dX12_see_1 : decode cX12_see 1 = .ok (.aload_n 0, 1) := by decide +kernel
theorem dX12_see_2 : decode cX12_see 2 = .ok (.getfield 104, 3) := by decide +kernel
theorem dX12_see_5 : decode cX12_see 5 = .ok (.if_icmp .ge 12, 3) := by decide +kernel
theorem dX12_see_8 : decode cX12_see 8 = .ok (.aload_n 0, 1) := by decide +kernel
theorem dX12_see_9 : decode cX12_see 9 = .ok (.getfield 21, 3) := by decide +kernel
theorem dX12_see_12 : decode cX12_see 12 = .ok (.iload_n 1, 1) := by decide +kernel
theorem dX12_see_13 : decode cX12_see 13 = .ok (.iaload, 1) := by decide +kernel
theorem dX12_see_14 : decode cX12_see 14 = .ok (.goto 4, 3) := by decide +kernel
theorem dX12_see_17 : decode cX12_see 17 = .ok (.iconst (-1), 1) := by decide +kernel
theorem dX12_see_18 : decode cX12_see 18 = .ok (.ireturn, 1) := by decide +kernel
def f_X12_see (m : zz_Mem) (p1 : Int32) : Option Int32 :=
  if (m.1 0 8) ≤ p1 then (
  some (-1 : Int32))
  else (
  zz_ix p1 900 <|
  some (m.1 3 p1.toNatClampNeg))
theorem k_X12_see {l : Launch} {G : zz_G} (hN : 26 ≤ zz_N G) : ∀ (p1 : Int32) (m : zz_Mem), zz_Con zz_shM l G mX12_see 0 [.ref (zz_a G 0), .int p1] zz_vIr (zz_mC m) (f_X12_see m p1) m := by
  intro p1 m
  refine zz_con (lv := [(0, .ref (zz_a G 0)), (1, .int p1)]) (by decide +kernel) (Nat.le_of_ble_eq_true rfl) rfl ?_
  unfold f_X12_see
  refine zs_iload_n dX12_see_0 rfl 1 rfl ?_
  refine zs_aload_n dX12_see_1 rfl 0 rfl ?_
  refine zs_getI fl_X12_104 dX12_see_2 (shm_0 hN) rfl ?_
  refine zs_icmp_ge (tgt := 17) dX12_see_5 (by decide) ?_ ?_
  · refine zs_iconst (v := (-1 : Int32)) dX12_see_17 ci_m1 ?_
    exact zs_iret dX12_see_18 rfl rfl rfl
  · refine zs_aload_n dX12_see_8 rfl 0 rfl ?_
    refine zs_getR fl_X12_21 dX12_see_9 (shm_0 hN) rfl ?_
    refine zs_iload_n dX12_see_12 rfl 1 rfl ?_
    refine zs_ialdG dX12_see_13 (shm_3 hN) ?_
    refine zs_goto (tgt := 18) dX12_see_14 (by decide) ?_
    exact zs_iret dX12_see_18 rfl rfl rfl
/-! X12_isSmall: PillarDeskModel.isSmall(I)Z -/
theorem dX12_isSmall_0 : decode cX12_isSmall 0 = .ok (.iload_n 0, 1) := by decide +kernel
theorem dX12_isSmall_1 : decode cX12_isSmall 1 = .ok (.bipush 97, 2) := by decide +kernel
theorem dX12_isSmall_3 : decode cX12_isSmall 3 = .ok (.if_icmp .lt 13, 3) := by decide +kernel
theorem dX12_isSmall_6 : decode cX12_isSmall 6 = .ok (.iload_n 0, 1) := by decide +kernel
theorem dX12_isSmall_7 : decode cX12_isSmall 7 = .ok (.bipush 122, 2) := by decide +kernel
theorem dX12_isSmall_9 : decode cX12_isSmall 9 = .ok (.if_icmp .gt 7, 3) := by decide +kernel
theorem dX12_isSmall_12 : decode cX12_isSmall 12 = .ok (.iconst 1, 1) := by decide +kernel
theorem dX12_isSmall_13 : decode cX12_isSmall 13 = .ok (.goto 4, 3) := by decide +kernel
theorem dX12_isSmall_16 : decode cX12_isSmall 16 = .ok (.iconst 0, 1) := by decide +kernel
theorem dX12_isSmall_17 : decode cX12_isSmall 17 = .ok (.ireturn, 1) := by decide +kernel
def f_X12_isSmall  (p0 : Int32) : Option Int32 :=
  if p0 < (97 : Int32) then (
  some (0 : Int32))
  else (
  if (122 : Int32) < p0 then (
  some (0 : Int32))
  else (
  some (1 : Int32)))
theorem k_X12_isSmall {l : Launch} {G : zz_G} (hN : 26 ≤ zz_N G) : ∀ (p0 : Int32) (m : zz_Mem), zz_Con zz_shM l G mX12_isSmall 0 [.int p0] zz_vIr (zz_mC m) (f_X12_isSmall p0) m := by
  intro p0 m
  refine zz_con (lv := [(0, .int p0)]) (by decide +kernel) (Nat.le_of_ble_eq_true rfl) rfl ?_
  unfold f_X12_isSmall
  refine zs_iload_n dX12_isSmall_0 rfl 0 rfl ?_
  refine zs_bipush (v := (97 : Int32)) dX12_isSmall_1 cb_97 ?_
  refine zs_icmp_lt (tgt := 16) dX12_isSmall_3 (by decide) ?_ ?_
  · refine zs_iconst (v := (0 : Int32)) dX12_isSmall_16 ci_0 ?_
    exact zs_zret dX12_isSmall_17 rfl rfl rfl rfl
  · refine zs_iload_n dX12_isSmall_6 rfl 0 rfl ?_
    refine zs_bipush (v := (122 : Int32)) dX12_isSmall_7 cb_122 ?_
    refine zs_icmp_gt (tgt := 16) dX12_isSmall_9 (by decide) ?_ ?_
    · refine zs_iconst (v := (0 : Int32)) dX12_isSmall_16 ci_0 ?_
      exact zs_zret dX12_isSmall_17 rfl rfl rfl rfl
    · refine zs_iconst (v := (1 : Int32)) dX12_isSmall_12 ci_1 ?_
      refine zs_goto (tgt := 17) dX12_isSmall_13 (by decide) ?_
      exact zs_zret dX12_isSmall_17 rfl rfl rfl rfl
/-! X12_isDigit: PillarDeskModel.isDigit(I)Z -/
theorem dX12_isDigit_0 : decode cX12_isDigit 0 = .ok (.iload_n 0, 1) := by decide +kernel
theorem dX12_isDigit_1 : decode cX12_isDigit 1 = .ok (.bipush 48, 2) := by decide +kernel
theorem dX12_isDigit_3 : decode cX12_isDigit 3 = .ok (.if_icmp .lt 13, 3) := by decide +kernel
theorem dX12_isDigit_6 : decode cX12_isDigit 6 = .ok (.iload_n 0, 1) := by decide +kernel
theorem dX12_isDigit_7 : decode cX12_isDigit 7 = .ok (.bipush 57, 2) := by decide +kernel
theorem dX12_isDigit_9 : decode cX12_isDigit 9 = .ok (.if_icmp .gt 7, 3) := by decide +kernel
theorem dX12_isDigit_12 : decode cX12_isDigit 12 = .ok (.iconst 1, 1) := by decide +kernel
theorem dX12_isDigit_13 : decode cX12_isDigit 13 = .ok (.goto 4, 3) := by decide +kernel
theorem dX12_isDigit_16 : decode cX12_isDigit 16 = .ok (.iconst 0, 1) := by decide +kernel
theorem dX12_isDigit_17 : decode cX12_isDigit 17 = .ok (.ireturn, 1) := by decide +kernel
def f_X12_isDigit  (p0 : Int32) : Option Int32 :=
  if p0 < (48 : Int32) then (
  some (0 : Int32))
  else (
  if (57 : Int32) < p0 then (
  some (0 : Int32))
  else (
  some (1 : Int32)))
theorem k_X12_isDigit {l : Launch} {G : zz_G} (hN : 26 ≤ zz_N G) : ∀ (p0 : Int32) (m : zz_Mem), zz_Con zz_shM l G mX12_isDigit 0 [.int p0] zz_vIr (zz_mC m) (f_X12_isDigit p0) m := by
  intro p0 m
  refine zz_con (lv := [(0, .int p0)]) (by decide +kernel) (Nat.le_of_ble_eq_true rfl) rfl ?_
  unfold f_X12_isDigit
  refine zs_iload_n dX12_isDigit_0 rfl 0 rfl ?_
  refine zs_bipush (v := (48 : Int32)) dX12_isDigit_1 cb_48 ?_
  refine zs_icmp_lt (tgt := 16) dX12_isDigit_3 (by decide) ?_ ?_
  · refine zs_iconst (v := (0 : Int32)) dX12_isDigit_16 ci_0 ?_
    exact zs_zret dX12_isDigit_17 rfl rfl rfl rfl
  · refine zs_iload_n dX12_isDigit_6 rfl 0 rfl ?_
    refine zs_bipush (v := (57 : Int32)) dX12_isDigit_7 cb_57 ?_
    refine zs_icmp_gt (tgt := 16) dX12_isDigit_9 (by decide) ?_ ?_
    · refine zs_iconst (v := (0 : Int32)) dX12_isDigit_16 ci_0 ?_
      exact zs_zret dX12_isDigit_17 rfl rfl rfl rfl
    · refine zs_iconst (v := (1 : Int32)) dX12_isDigit_12 ci_1 ?_
      refine zs_goto (tgt := 17) dX12_isDigit_13 (by decide) ?_
      exact zs_zret dX12_isDigit_17 rfl rfl rfl rfl
/-! X12_keyAt: PillarDeskModel.keyAt()I -/
theorem dX12_keyAt_0 : decode cX12_keyAt 0 = .ok (.iconst 0, 1) := by decide +kernel
theorem dX12_keyAt_1 : decode cX12_keyAt 1 = .ok (.istore_n 1, 1) := by decide +kernel
theorem dX12_keyAt_2 : decode cX12_keyAt 2 = .ok (.iconst 1, 1) := by decide +kernel
theorem dX12_keyAt_3 : decode cX12_keyAt 3 = .ok (.istore_n 2, 1) := by decide +kernel
theorem dX12_keyAt_4 : decode cX12_keyAt 4 = .ok (.iload_n 2, 1) := by decide +kernel
theorem dX12_keyAt_5 : decode cX12_keyAt 5 = .ok (.ldc 107, 2) := by decide +kernel
theorem dX12_keyAt_7 : decode cX12_keyAt 7 = .ok (.invokevirtual 109, 3) := by decide +kernel
theorem dX12_keyAt_10 : decode cX12_keyAt 10 = .ok (.if_icmp .ge 113, 3) := by decide +kernel
theorem dX12_keyAt_13 : decode cX12_keyAt 13 = .ok (.iconst 0, 1) := by decide +kernel
theorem dX12_keyAt_14 : decode cX12_keyAt 14 = .ok (.istore_n 3, 1) := by decide +kernel
theorem dX12_keyAt_15 : decode cX12_keyAt 15 = .ok (.ldc 107, 2) := by decide +kernel
theorem dX12_keyAt_17 : decode cX12_keyAt 17 = .ok (.iload_n 2, 1) := by decide +kernel
theorem dX12_keyAt_18 : decode cX12_keyAt 18 = .ok (.iload_n 3, 1) := by decide +kernel
theorem dX12_keyAt_19 : decode cX12_keyAt 19 = .ok (.iadd, 1) := by decide +kernel
theorem dX12_keyAt_20 : decode cX12_keyAt 20 = .ok (.invokevirtual 115, 3) := by decide +kernel
theorem dX12_keyAt_23 : decode cX12_keyAt 23 = .ok (.bipush 32, 2) := by decide +kernel
theorem dX12_keyAt_25 : decode cX12_keyAt 25 = .ok (.if_icmp .eq 44, 3) := by decide +kernel
theorem dX12_keyAt_28 : decode cX12_keyAt 28 = .ok (.aload_n 0, 1) := by decide +kernel
theorem dX12_keyAt_29 : decode cX12_keyAt 29 = .ok (.getfield 119, 3) := by decide +kernel
theorem dX12_keyAt_32 : decode cX12_keyAt 32 = .ok (.iload_n 3, 1) := by decide +kernel
theorem dX12_keyAt_33 : decode cX12_keyAt 33 = .ok (.iadd, 1) := by decide +kernel
theorem dX12_keyAt_34 : decode cX12_keyAt 34 = .ok (.aload_n 0, 1) := by decide +kernel
theorem dX12_keyAt_35 : decode cX12_keyAt 35 = .ok (.getfield 122, 3) := by decide +kernel
theorem dX12_keyAt_38 : decode cX12_keyAt 38 = .ok (.if_icmp .ge 31, 3) := by decide +kernel
theorem dX12_keyAt_41 : decode cX12_keyAt 41 = .ok (.aload_n 0, 1) := by decide +kernel
theorem dX12_keyAt_42 : decode cX12_keyAt 42 = .ok (.getfield 21, 3) := by decide +kernel
theorem dX12_keyAt_45 : decode cX12_keyAt 45 = .ok (.aload_n 0, 1) := by decide +kernel
theorem dX12_keyAt_46 : decode cX12_keyAt 46 = .ok (.getfield 119, 3) := by decide +kernel
theorem dX12_keyAt_49 : decode cX12_keyAt 49 = .ok (.iload_n 3, 1) := by decide +kernel
theorem dX12_keyAt_50 : decode cX12_keyAt 50 = .ok (.iadd, 1) := by decide +kernel
theorem dX12_keyAt_51 : decode cX12_keyAt 51 = .ok (.iaload, 1) := by decide +kernel
theorem dX12_keyAt_52 : decode cX12_keyAt 52 = .ok (.ldc 107, 2) := by decide +kernel
theorem dX12_keyAt_54 : decode cX12_keyAt 54 = .ok (.iload_n 2, 1) := by decide +kernel
theorem dX12_keyAt_55 : decode cX12_keyAt 55 = .ok (.iload_n 3, 1) := by decide +kernel
theorem dX12_keyAt_56 : decode cX12_keyAt 56 = .ok (.iadd, 1) := by decide +kernel
theorem dX12_keyAt_57 : decode cX12_keyAt 57 = .ok (.invokevirtual 115, 3) := by decide +kernel
theorem dX12_keyAt_60 : decode cX12_keyAt 60 = .ok (.if_icmp .ne 9, 3) := by decide +kernel
theorem dX12_keyAt_63 : decode cX12_keyAt 63 = .ok (.iinc 3 1, 3) := by decide +kernel
theorem dX12_keyAt_66 : decode cX12_keyAt 66 = .ok (.goto (-51), 3) := by decide +kernel
theorem dX12_keyAt_69 : decode cX12_keyAt 69 = .ok (.ldc 107, 2) := by decide +kernel
theorem dX12_keyAt_71 : decode cX12_keyAt 71 = .ok (.iload_n 2, 1) := by decide +kernel
theorem dX12_keyAt_72 : decode cX12_keyAt 72 = .ok (.iload_n 3, 1) := by decide +kernel
theorem dX12_keyAt_73 : decode cX12_keyAt 73 = .ok (.iadd, 1) := by decide +kernel
theorem dX12_keyAt_74 : decode cX12_keyAt 74 = .ok (.invokevirtual 115, 3) := by decide +kernel
theorem dX12_keyAt_77 : decode cX12_keyAt 77 = .ok (.bipush 32, 2) := by decide +kernel
theorem dX12_keyAt_79 : decode cX12_keyAt 79 = .ok (.if_icmp .ne 18, 3) := by decide +kernel
theorem dX12_keyAt_82 : decode cX12_keyAt 82 = .ok (.aload_n 0, 1) := by decide +kernel
theorem dX12_keyAt_83 : decode cX12_keyAt 83 = .ok (.getfield 119, 3) := by decide +kernel
theorem dX12_keyAt_86 : decode cX12_keyAt 86 = .ok (.iload_n 3, 1) := by decide +kernel
theorem dX12_keyAt_87 : decode cX12_keyAt 87 = .ok (.iadd, 1) := by decide +kernel
theorem dX12_keyAt_88 : decode cX12_keyAt 88 = .ok (.aload_n 0, 1) := by decide +kernel
theorem dX12_keyAt_89 : decode cX12_keyAt 89 = .ok (.getfield 122, 3) := by decide +kernel
theorem dX12_keyAt_92 : decode cX12_keyAt 92 = .ok (.if_icmp .ne 5, 3) := by decide +kernel
theorem dX12_keyAt_95 : decode cX12_keyAt 95 = .ok (.iload_n 1, 1) := by decide +kernel
theorem dX12_keyAt_96 : decode cX12_keyAt 96 = .ok (.ireturn, 1) := by decide +kernel
theorem dX12_keyAt_97 : decode cX12_keyAt 97 = .ok (.ldc 107, 2) := by decide +kernel
theorem dX12_keyAt_99 : decode cX12_keyAt 99 = .ok (.iload_n 2, 1) := by decide +kernel
theorem dX12_keyAt_100 : decode cX12_keyAt 100 = .ok (.invokevirtual 115, 3) := by decide +kernel
theorem dX12_keyAt_103 : decode cX12_keyAt 103 = .ok (.bipush 32, 2) := by decide +kernel
theorem dX12_keyAt_105 : decode cX12_keyAt 105 = .ok (.if_icmp .eq 9, 3) := by decide +kernel
theorem dX12_keyAt_108 : decode cX12_keyAt 108 = .ok (.iinc 2 1, 3) := by decide +kernel
theorem dX12_keyAt_111 : decode cX12_keyAt 111 = .ok (.goto (-14), 3) := by decide +kernel
theorem dX12_keyAt_114 : decode cX12_keyAt 114 = .ok (.iinc 2 1, 3) := by decide +kernel
theorem dX12_keyAt_117 : decode cX12_keyAt 117 = .ok (.iinc 1 1, 3) := by decide +kernel
theorem dX12_keyAt_120 : decode cX12_keyAt 120 = .ok (.goto (-116), 3) := by decide +kernel
theorem dX12_keyAt_123 : decode cX12_keyAt 123 = .ok (.bipush 28, 2) := by decide +kernel
theorem dX12_keyAt_125 : decode cX12_keyAt 125 = .ok (.ireturn, 1) := by decide +kernel
def f_X12_keyAt_97 (m : zz_Mem) (k4 : Int32 → Int32 → Option Int32) : Nat → Int32 → Int32 → Option Int32
  | 0, _, _ => none
  | n + 1, v1, v2 =>
  zz_bndR (f_J0_charAt_5068e 29 v2) fun r1 =>
  if r1 = (32 : Int32) then (
  zz_letI (v2 + (1 : Int32)) fun x2 =>
  zz_letI (v1 + (1 : Int32)) fun x3 =>
  k4 x3 x2)
  else (
  zz_letI (v2 + (1 : Int32)) fun x4 =>
  f_X12_keyAt_97 m k4 n v1 x4)
theorem t_X12_keyAt_97 {l : Launch} {G : zz_G} (hN : 26 ≤ zz_N G) {m : zz_Mem} {k4 : Int32 → Int32 → Option Int32} (hk4 : ∀ (v1 : Int32) (v2 : Int32), zz_Sim zz_shM l G mX12_keyAt 4 zz_vIr (zz_mC m) (k4 v1 v2) 4 [(0, .ref (zz_a G 0)), (1, .int v1), (2, .int v2)] [] m) : ∀ (n : Nat) (v1 : Int32) (v2 : Int32), zz_Sim zz_shM l G mX12_keyAt 4 zz_vIr (zz_mC m) (f_X12_keyAt_97 m k4 n v1 v2) 97 [(0, .ref (zz_a G 0)), (1, .int v1), (2, .int v2)] [] m := by
  intro n
  induction n with
  | zero => intro _ _; exact zs_none
  | succ n ih =>
    intro v1 v2
    rw [f_X12_keyAt_97]
    refine zs_ldcS (w := 29) dX12_keyAt_97 (by decide +kernel) ?_
    refine zs_iload_n dX12_keyAt_99 rfl 2 rfl ?_
    refine zs_cV_iR (rest := []) (k_J0_charAt_5068e hN (Nat.le_of_ble_eq_true rfl) _ _) dX12_keyAt_100 lv_X12_115 ok_J0_charAt_5068e (zz_rcv_s (Nat.le_of_ble_eq_true rfl)) (Nat.le_of_ble_eq_true rfl) rfl rfl (Nat.le_of_ble_eq_true rfl) (fun r1 => ?_)
    refine zs_bipush (v := (32 : Int32)) dX12_keyAt_103 cb_32 ?_
    refine zs_icmp_eq (tgt := 114) dX12_keyAt_105 (by decide) ?_ ?_
    · refine zs_iinc (fun y => [(2, .int y), (0, .ref (zz_a G 0)), (1, .int v1)]) dX12_keyAt_114 2 rfl ci_1 (Nat.le_of_ble_eq_true rfl) (fun _ => rfl) (fun x2 => ?_)
      refine zs_iinc (fun y => [(1, .int y), (2, .int x2), (0, .ref (zz_a G 0))]) dX12_keyAt_117 2 rfl ci_1 (Nat.le_of_ble_eq_true rfl) (fun _ => rfl) (fun x3 => ?_)
      refine zs_goto (tgt := 4) dX12_keyAt_120 (by decide) ?_
      refine zs_sub [2, 0, 1] rfl ?_
      exact hk4 _ _
    · refine zs_iinc (fun y => [(2, .int y), (0, .ref (zz_a G 0)), (1, .int v1)]) dX12_keyAt_108 2 rfl ci_1 (Nat.le_of_ble_eq_true rfl) (fun _ => rfl) (fun x4 => ?_)
      refine zs_goto (tgt := 97) dX12_keyAt_111 (by decide) ?_
      refine zs_sub [1, 2, 0] rfl ?_
      exact ih _ _
def f_X12_keyAt_69 (m : zz_Mem) (k4 : Int32 → Int32 → Option Int32) (v1 : Int32) (v2 : Int32) (v3 : Int32) : Option Int32 :=
  zz_bndR (f_J0_charAt_5068e 29 (v2 + v3)) fun r1 =>
  if r1 = (32 : Int32) then (
  if ((m.1 0 6) + v3) = (m.1 0 7) then (
  some v1)
  else (
  f_X12_keyAt_97 m k4 zz_fuel v1 v2))
  else (
  f_X12_keyAt_97 m k4 zz_fuel v1 v2)
theorem t_X12_keyAt_69 {l : Launch} {G : zz_G} (hN : 26 ≤ zz_N G) {m : zz_Mem} {k4 : Int32 → Int32 → Option Int32} (hk4 : ∀ (v1 : Int32) (v2 : Int32), zz_Sim zz_shM l G mX12_keyAt 4 zz_vIr (zz_mC m) (k4 v1 v2) 4 [(0, .ref (zz_a G 0)), (1, .int v1), (2, .int v2)] [] m) : ∀ (v1 : Int32) (v2 : Int32) (v3 : Int32), zz_Sim zz_shM l G mX12_keyAt 4 zz_vIr (zz_mC m) (f_X12_keyAt_69 m k4 v1 v2 v3) 69 [(0, .ref (zz_a G 0)), (1, .int v1), (2, .int v2), (3, .int v3)] [] m := by
  intro v1 v2 v3
  unfold f_X12_keyAt_69
  refine zs_ldcS (w := 29) dX12_keyAt_69 (by decide +kernel) ?_
  refine zs_iload_n dX12_keyAt_71 rfl 2 rfl ?_
  refine zs_iload_n dX12_keyAt_72 rfl 3 rfl ?_
  refine zs_iadd dX12_keyAt_73 ?_
  refine zs_cV_iR (rest := []) (k_J0_charAt_5068e hN (Nat.le_of_ble_eq_true rfl) _ _) dX12_keyAt_74 lv_X12_115 ok_J0_charAt_5068e (zz_rcv_s (Nat.le_of_ble_eq_true rfl)) (Nat.le_of_ble_eq_true rfl) rfl rfl (Nat.le_of_ble_eq_true rfl) (fun r1 => ?_)
  refine zs_bipush (v := (32 : Int32)) dX12_keyAt_77 cb_32 ?_
  refine zs_icmp_ne (tgt := 97) dX12_keyAt_79 (by decide) ?_ ?_
  · refine zs_sub [0, 1, 2] rfl ?_
    exact t_X12_keyAt_97 hN hk4 zz_fuel _ _
  · refine zs_aload_n dX12_keyAt_82 rfl 0 rfl ?_
    refine zs_getI fl_X12_119 dX12_keyAt_83 (shm_0 hN) rfl ?_
    refine zs_iload_n dX12_keyAt_86 rfl 3 rfl ?_
    refine zs_iadd dX12_keyAt_87 ?_
    refine zs_aload_n dX12_keyAt_88 rfl 0 rfl ?_
    refine zs_getI fl_X12_122 dX12_keyAt_89 (shm_0 hN) rfl ?_
    refine zs_icmp_ne (tgt := 97) dX12_keyAt_92 (by decide) ?_ ?_
    · refine zs_sub [0, 1, 2] rfl ?_
      exact t_X12_keyAt_97 hN hk4 zz_fuel _ _
    · refine zs_iload_n dX12_keyAt_95 rfl 1 rfl ?_
      exact zs_iret dX12_keyAt_96 rfl rfl rfl
def f_X12_keyAt_15 (m : zz_Mem) (k4 : Int32 → Int32 → Option Int32) : Nat → Int32 → Int32 → Int32 → Option Int32
  | 0, _, _, _ => none
  | n + 1, v1, v2, v3 =>
  zz_bndR (f_J0_charAt_5068e 29 (v2 + v3)) fun r1 =>
  if r1 = (32 : Int32) then (
  f_X12_keyAt_69 m k4 v1 v2 v3)
  else (
  if (m.1 0 7) ≤ ((m.1 0 6) + v3) then (
  f_X12_keyAt_69 m k4 v1 v2 v3)
  else (
  zz_ix ((m.1 0 6) + v3) 900 <|
  zz_bndR (f_J0_charAt_5068e 29 (v2 + v3)) fun r2 =>
  if (m.1 3 ((m.1 0 6) + v3).toNatClampNeg) = r2 then (
  zz_letI (v3 + (1 : Int32)) fun x3 =>
  f_X12_keyAt_15 m k4 n v1 v2 x3)
  else (
  f_X12_keyAt_69 m k4 v1 v2 v3)))
theorem t_X12_keyAt_15 {l : Launch} {G : zz_G} (hN : 26 ≤ zz_N G) {m : zz_Mem} {k4 : Int32 → Int32 → Option Int32} (hk4 : ∀ (v1 : Int32) (v2 : Int32), zz_Sim zz_shM l G mX12_keyAt 4 zz_vIr (zz_mC m) (k4 v1 v2) 4 [(0, .ref (zz_a G 0)), (1, .int v1), (2, .int v2)] [] m) : ∀ (n : Nat) (v1 : Int32) (v2 : Int32) (v3 : Int32), zz_Sim zz_shM l G mX12_keyAt 4 zz_vIr (zz_mC m) (f_X12_keyAt_15 m k4 n v1 v2 v3) 15 [(0, .ref (zz_a G 0)), (1, .int v1), (2, .int v2), (3, .int v3)] [] m := by
  intro n
  induction n with
  | zero => intro _ _ _; exact zs_none
  | succ n ih =>
    intro v1 v2 v3
    rw [f_X12_keyAt_15]
    refine zs_ldcS (w := 29) dX12_keyAt_15 (by decide +kernel) ?_
    refine zs_iload_n dX12_keyAt_17 rfl 2 rfl ?_
    refine zs_iload_n dX12_keyAt_18 rfl 3 rfl ?_
    refine zs_iadd dX12_keyAt_19 ?_
    refine zs_cV_iR (rest := []) (k_J0_charAt_5068e hN (Nat.le_of_ble_eq_true rfl) _ _) dX12_keyAt_20 lv_X12_115 ok_J0_charAt_5068e (zz_rcv_s (Nat.le_of_ble_eq_true rfl)) (Nat.le_of_ble_eq_true rfl) rfl rfl (Nat.le_of_ble_eq_true rfl) (fun r1 => ?_)
    refine zs_bipush (v := (32 : Int32)) dX12_keyAt_23 cb_32 ?_
    refine zs_icmp_eq (tgt := 69) dX12_keyAt_25 (by decide) ?_ ?_
    · exact t_X12_keyAt_69 hN hk4 _ _ _
    · refine zs_aload_n dX12_keyAt_28 rfl 0 rfl ?_
      refine zs_getI fl_X12_119 dX12_keyAt_29 (shm_0 hN) rfl ?_
      refine zs_iload_n dX12_keyAt_32 rfl 3 rfl ?_
      refine zs_iadd dX12_keyAt_33 ?_
      refine zs_aload_n dX12_keyAt_34 rfl 0 rfl ?_
      refine zs_getI fl_X12_122 dX12_keyAt_35 (shm_0 hN) rfl ?_
      refine zs_icmp_ge (tgt := 69) dX12_keyAt_38 (by decide) ?_ ?_
      · exact t_X12_keyAt_69 hN hk4 _ _ _
      · refine zs_aload_n dX12_keyAt_41 rfl 0 rfl ?_
        refine zs_getR fl_X12_21 dX12_keyAt_42 (shm_0 hN) rfl ?_
        refine zs_aload_n dX12_keyAt_45 rfl 0 rfl ?_
        refine zs_getI fl_X12_119 dX12_keyAt_46 (shm_0 hN) rfl ?_
        refine zs_iload_n dX12_keyAt_49 rfl 3 rfl ?_
        refine zs_iadd dX12_keyAt_50 ?_
        refine zs_ialdG dX12_keyAt_51 (shm_3 hN) ?_
        refine zs_ldcS (w := 29) dX12_keyAt_52 (by decide +kernel) ?_
        refine zs_iload_n dX12_keyAt_54 rfl 2 rfl ?_
        refine zs_iload_n dX12_keyAt_55 rfl 3 rfl ?_
        refine zs_iadd dX12_keyAt_56 ?_
        refine zs_cV_iR (rest := [.int (m.1 3 ((m.1 0 6) + v3).toNatClampNeg)]) (k_J0_charAt_5068e hN (Nat.le_of_ble_eq_true rfl) _ _) dX12_keyAt_57 lv_X12_115 ok_J0_charAt_5068e (zz_rcv_s (Nat.le_of_ble_eq_true rfl)) (Nat.le_of_ble_eq_true rfl) rfl rfl (Nat.le_of_ble_eq_true rfl) (fun r2 => ?_)
        refine zs_icmp_ne (tgt := 69) dX12_keyAt_60 (by decide) ?_ ?_
        · exact t_X12_keyAt_69 hN hk4 _ _ _
        · refine zs_iinc (fun y => [(3, .int y), (0, .ref (zz_a G 0)), (1, .int v1), (2, .int v2)]) dX12_keyAt_63 3 rfl ci_1 (Nat.le_of_ble_eq_true rfl) (fun _ => rfl) (fun x3 => ?_)
          refine zs_goto (tgt := 15) dX12_keyAt_66 (by decide) ?_
          refine zs_sub [1, 2, 3, 0] rfl ?_
          exact ih _ _ _
def f_X12_keyAt_4 (m : zz_Mem)  : Nat → Int32 → Int32 → Option Int32
  | 0, _, _ => none
  | n + 1, v1, v2 =>
  zz_bndR (f_J0_length_8abf5 29) fun r1 =>
  if r1 ≤ v2 then (
  some (28 : Int32))
  else (
  f_X12_keyAt_15 m (f_X12_keyAt_4 m n) zz_fuel v1 v2 (0 : Int32))
theorem t_X12_keyAt_4 {l : Launch} {G : zz_G} (hN : 26 ≤ zz_N G) {m : zz_Mem}  : ∀ (n : Nat) (v1 : Int32) (v2 : Int32), zz_Sim zz_shM l G mX12_keyAt 4 zz_vIr (zz_mC m) (f_X12_keyAt_4 m n v1 v2) 4 [(0, .ref (zz_a G 0)), (1, .int v1), (2, .int v2)] [] m := by
  intro n
  induction n with
  | zero => intro _ _; exact zs_none
  | succ n ih =>
    intro v1 v2
    rw [f_X12_keyAt_4]
    refine zs_iload_n dX12_keyAt_4 rfl 2 rfl ?_
    refine zs_ldcS (w := 29) dX12_keyAt_5 (by decide +kernel) ?_
    refine zs_cV_iR (rest := [.int v2]) (k_J0_length_8abf5 hN (Nat.le_of_ble_eq_true rfl)  _) dX12_keyAt_7 lv_X12_109 ok_J0_length_8abf5 (zz_rcv_s (Nat.le_of_ble_eq_true rfl)) (Nat.le_of_ble_eq_true rfl) rfl rfl (Nat.le_of_ble_eq_true rfl) (fun r1 => ?_)
    refine zs_icmp_ge (tgt := 123) dX12_keyAt_10 (by decide) ?_ ?_
    · refine zs_bipush (v := (28 : Int32)) dX12_keyAt_123 cb_28 ?_
      exact zs_iret dX12_keyAt_125 rfl rfl rfl
    · refine zs_iconst (v := (0 : Int32)) dX12_keyAt_13 ci_0 ?_
      refine zs_istore_n [(3, .int (0 : Int32)), (0, .ref (zz_a G 0)), (1, .int v1), (2, .int v2)] dX12_keyAt_14 rfl (Nat.le_of_ble_eq_true rfl) rfl ?_
      refine zs_sub [1, 2, 3, 0] rfl ?_
      exact t_X12_keyAt_15 hN ih zz_fuel _ _ _
def f_X12_keyAt (m : zz_Mem)  : Option Int32 :=
  f_X12_keyAt_4 m zz_fuel (0 : Int32) (1 : Int32)
theorem k_X12_keyAt {l : Launch} {G : zz_G} (hN : 26 ≤ zz_N G) : ∀ (m : zz_Mem), zz_Con zz_shM l G mX12_keyAt 4 [.ref (zz_a G 0)] zz_vIr (zz_mC m) (f_X12_keyAt m) m := by
  intro m
  refine zz_con (lv := [(0, .ref (zz_a G 0))]) (by decide +kernel) (Nat.le_of_ble_eq_true rfl) rfl ?_
  unfold f_X12_keyAt
  refine zs_iconst (v := (0 : Int32)) dX12_keyAt_0 ci_0 ?_
  refine zs_istore_n [(1, .int (0 : Int32)), (0, .ref (zz_a G 0))] dX12_keyAt_1 rfl (Nat.le_of_ble_eq_true rfl) rfl ?_
  refine zs_iconst (v := (1 : Int32)) dX12_keyAt_2 ci_1 ?_
  refine zs_istore_n [(2, .int (1 : Int32)), (1, .int (0 : Int32)), (0, .ref (zz_a G 0))] dX12_keyAt_3 rfl (Nat.le_of_ble_eq_true rfl) rfl ?_
  refine zs_sub [2, 1, 0] rfl ?_
  exact t_X12_keyAt_4 hN zz_fuel _ _
/-! X12_next: PillarDeskModel.next()V -/
theorem dX12_next_0 : decode cX12_next 0 = .ok (.aload_n 0, 1) := by decide +kernel
theorem dX12_next_1 : decode cX12_next 1 = .ok (.aload_n 0, 1) := by decide +kernel
theorem dX12_next_2 : decode cX12_next 2 = .ok (.getfield 122, 3) := by decide +kernel
theorem dX12_next_5 : decode cX12_next 5 = .ok (.putfield 119, 3) := by decide +kernel
theorem dX12_next_8 : decode cX12_next 8 = .ok (.aload_n 0, 1) := by decide +kernel
theorem dX12_next_9 : decode cX12_next 9 = .ok (.aload_n 0, 1) := by decide +kernel
theorem dX12_next_10 : decode cX12_next 10 = .ok (.getfield 119, 3) := by decide +kernel
theorem dX12_next_13 : decode cX12_next 13 = .ok (.invokevirtual 125, 3) := by decide +kernel
theorem dX12_next_16 : decode cX12_next 16 = .ok (.bipush 10, 2) := by decide +kernel
theorem dX12_next_18 : decode cX12_next 18 = .ok (.if_icmp .eq 16, 3) := by decide +kernel
theorem dX12_next_21 : decode cX12_next 21 = .ok (.aload_n 0, 1) := by decide +kernel
theorem dX12_next_22 : decode cX12_next 22 = .ok (.aload_n 0, 1) := by decide +kernel
theorem dX12_next_23 : decode cX12_next 23 = .ok (.getfield 119, 3) := by decide +kernel
theorem dX12_next_26 : decode cX12_next 26 = .ok (.invokevirtual 125, 3) := by decide +kernel
theorem dX12_next_29 : decode cX12_next 29 = .ok (.bipush 32, 2) := by decide +kernel
theorem dX12_next_31 : decode cX12_next 31 = .ok (.if_icmp .ne 16, 3) := by decide +kernel
theorem dX12_next_34 : decode cX12_next 34 = .ok (.aload_n 0, 1) := by decide +kernel
theorem dX12_next_35 : decode cX12_next 35 = .ok (.dup, 1) := by decide +kernel
theorem dX12_next_36 : decode cX12_next 36 = .ok (.getfield 119, 3) := by decide +kernel
theorem dX12_next_39 : decode cX12_next 39 = .ok (.iconst 1, 1) := by decide +kernel
theorem dX12_next_40 : decode cX12_next 40 = .ok (.iadd, 1) := by decide +kernel
theorem dX12_next_41 : decode cX12_next 41 = .ok (.putfield 119, 3) := by decide +kernel
theorem dX12_next_44 : decode cX12_next 44 = .ok (.goto (-36), 3) := by decide +kernel
theorem dX12_next_47 : decode cX12_next 47 = .ok (.aload_n 0, 1) := by decide +kernel
theorem dX12_next_48 : decode cX12_next 48 = .ok (.aload_n 0, 1) := by decide +kernel
theorem dX12_next_49 : decode cX12_next 49 = .ok (.getfield 119, 3) := by decide +kernel
theorem dX12_next_52 : decode cX12_next 52 = .ok (.putfield 122, 3) := by decide +kernel
theorem dX12_next_55 : decode cX12_next 55 = .ok (.aload_n 0, 1) := by decide +kernel
theorem dX12_next_56 : decode cX12_next 56 = .ok (.getfield 119, 3) := by decide +kernel
theorem dX12_next_59 : decode cX12_next 59 = .ok (.aload_n 0, 1) := by decide +kernel
theorem dX12_next_60 : decode cX12_next 60 = .ok (.getfield 104, 3) := by decide +kernel
theorem dX12_next_63 : decode cX12_next 63 = .ok (.if_icmp .lt 12, 3) := by decide +kernel
theorem dX12_next_66 : decode cX12_next 66 = .ok (.aload_n 0, 1) := by decide +kernel
theorem dX12_next_67 : decode cX12_next 67 = .ok (.bipush 30, 2) := by decide +kernel
theorem dX12_next_69 : decode cX12_next 69 = .ok (.putfield 129, 3) := by decide +kernel
theorem dX12_next_72 : decode cX12_next 72 = .ok (.goto 222, 3) := by decide +kernel
theorem dX12_next_75 : decode cX12_next 75 = .ok (.aload_n 0, 1) := by decide +kernel
theorem dX12_next_76 : decode cX12_next 76 = .ok (.aload_n 0, 1) := by decide +kernel
theorem dX12_next_77 : decode cX12_next 77 = .ok (.getfield 119, 3) := by decide +kernel
theorem dX12_next_80 : decode cX12_next 80 = .ok (.invokevirtual 125, 3) := by decide +kernel
theorem dX12_next_83 : decode cX12_next 83 = .ok (.invokestatic 132, 3) := by decide +kernel
theorem dX12_next_86 : decode cX12_next 86 = .ok (.ifCond .eq 41, 3) := by decide +kernel
theorem dX12_next_89 : decode cX12_next 89 = .ok (.aload_n 0, 1) := by decide +kernel
theorem dX12_next_90 : decode cX12_next 90 = .ok (.aload_n 0, 1) := by decide +kernel
theorem dX12_next_91 : decode cX12_next 91 = .ok (.getfield 122, 3) := by decide +kernel
theorem dX12_next_94 : decode cX12_next 94 = .ok (.invokevirtual 125, 3) := by decide +kernel
theorem dX12_next_97 : decode cX12_next 97 = .ok (.invokestatic 132, 3) := by decide +kernel
theorem dX12_next_100 : decode cX12_next 100 = .ok (.ifCond .eq 16, 3) := by decide +kernel
theorem dX12_next_103 : decode cX12_next 103 = .ok (.aload_n 0, 1) := by decide +kernel
theorem dX12_next_104 : decode cX12_next 104 = .ok (.dup, 1) := by decide +kernel
theorem dX12_next_105 : decode cX12_next 105 = .ok (.getfield 122, 3) := by decide +kernel
theorem dX12_next_108 : decode cX12_next 108 = .ok (.iconst 1, 1) := by decide +kernel
theorem dX12_next_109 : decode cX12_next 109 = .ok (.iadd, 1) := by decide +kernel
theorem dX12_next_110 : decode cX12_next 110 = .ok (.putfield 122, 3) := by decide +kernel
theorem dX12_next_113 : decode cX12_next 113 = .ok (.goto (-24), 3) := by decide +kernel
theorem dX12_next_116 : decode cX12_next 116 = .ok (.aload_n 0, 1) := by decide +kernel
theorem dX12_next_117 : decode cX12_next 117 = .ok (.aload_n 0, 1) := by decide +kernel
theorem dX12_next_118 : decode cX12_next 118 = .ok (.invokevirtual 136, 3) := by decide +kernel
theorem dX12_next_121 : decode cX12_next 121 = .ok (.putfield 129, 3) := by decide +kernel
theorem dX12_next_124 : decode cX12_next 124 = .ok (.goto 170, 3) := by decide +kernel
theorem dX12_next_127 : decode cX12_next 127 = .ok (.aload_n 0, 1) := by decide +kernel
theorem dX12_next_128 : decode cX12_next 128 = .ok (.aload_n 0, 1) := by decide +kernel
theorem dX12_next_129 : decode cX12_next 129 = .ok (.getfield 119, 3) := by decide +kernel
theorem dX12_next_132 : decode cX12_next 132 = .ok (.invokevirtual 125, 3) := by decide +kernel
theorem dX12_next_135 : decode cX12_next 135 = .ok (.invokestatic 139, 3) := by decide +kernel
theorem dX12_next_138 : decode cX12_next 138 = .ok (.ifCond .eq 98, 3) := by decide +kernel
theorem dX12_next_141 : decode cX12_next 141 = .ok (.aload_n 0, 1) := by decide +kernel
theorem dX12_next_142 : decode cX12_next 142 = .ok (.iconst 0, 1) := by decide +kernel
theorem dX12_next_143 : decode cX12_next 143 = .ok (.putfield 142, 3) := by decide +kernel
theorem dX12_next_146 : decode cX12_next 146 = .ok (.aload_n 0, 1) := by decide +kernel
theorem dX12_next_147 : decode cX12_next 147 = .ok (.aload_n 0, 1) := by decide +kernel
theorem dX12_next_148 : decode cX12_next 148 = .ok (.getfield 122, 3) := by decide +kernel
theorem dX12_next_151 : decode cX12_next 151 = .ok (.invokevirtual 125, 3) := by decide +kernel
theorem dX12_next_154 : decode cX12_next 154 = .ok (.invokestatic 139, 3) := by decide +kernel
theorem dX12_next_157 : decode cX12_next 157 = .ok (.ifCond .eq 52, 3) := by decide +kernel
theorem dX12_next_160 : decode cX12_next 160 = .ok (.aload_n 0, 1) := by decide +kernel
theorem dX12_next_161 : decode cX12_next 161 = .ok (.getfield 122, 3) := by decide +kernel
theorem dX12_next_164 : decode cX12_next 164 = .ok (.aload_n 0, 1) := by decide +kernel
theorem dX12_next_165 : decode cX12_next 165 = .ok (.getfield 119, 3) := by decide +kernel
theorem dX12_next_168 : decode cX12_next 168 = .ok (.isub, 1) := by decide +kernel
theorem dX12_next_169 : decode cX12_next 169 = .ok (.iconst 3, 1) := by decide +kernel
theorem dX12_next_170 : decode cX12_next 170 = .ok (.if_icmp .ge 26, 3) := by decide +kernel
theorem dX12_next_173 : decode cX12_next 173 = .ok (.aload_n 0, 1) := by decide +kernel
theorem dX12_next_174 : decode cX12_next 174 = .ok (.bipush 10, 2) := by decide +kernel
theorem dX12_next_176 : decode cX12_next 176 = .ok (.aload_n 0, 1) := by decide +kernel
theorem dX12_next_177 : decode cX12_next 177 = .ok (.getfield 142, 3) := by decide +kernel
theorem dX12_next_180 : decode cX12_next 180 = .ok (.imul, 1) := by decide +kernel
theorem dX12_next_181 : decode cX12_next 181 = .ok (.aload_n 0, 1) := by decide +kernel
theorem dX12_next_182 : decode cX12_next 182 = .ok (.aload_n 0, 1) := by decide +kernel
theorem dX12_next_183 : decode cX12_next 183 = .ok (.getfield 122, 3) := by decide +kernel
theorem dX12_next_186 : decode cX12_next 186 = .ok (.invokevirtual 125, 3) := by decide +kernel
theorem dX12_next_189 : decode cX12_next 189 = .ok (.iadd, 1) := by decide +kernel
theorem dX12_next_190 : decode cX12_next 190 = .ok (.bipush 48, 2) := by decide +kernel
theorem dX12_next_192 : decode cX12_next 192 = .ok (.isub, 1) := by decide +kernel
theorem dX12_next_193 : decode cX12_next 193 = .ok (.putfield 142, 3) := by decide +kernel
theorem dX12_next_196 : decode cX12_next 196 = .ok (.aload_n 0, 1) := by decide +kernel
theorem dX12_next_197 : decode cX12_next 197 = .ok (.dup, 1) := by decide +kernel
theorem dX12_next_198 : decode cX12_next 198 = .ok (.getfield 122, 3) := by decide +kernel
theorem dX12_next_201 : decode cX12_next 201 = .ok (.iconst 1, 1) := by decide +kernel
theorem dX12_next_202 : decode cX12_next 202 = .ok (.iadd, 1) := by decide +kernel
theorem dX12_next_203 : decode cX12_next 203 = .ok (.putfield 122, 3) := by decide +kernel
theorem dX12_next_206 : decode cX12_next 206 = .ok (.goto (-60), 3) := by decide +kernel
theorem dX12_next_209 : decode cX12_next 209 = .ok (.aload_n 0, 1) := by decide +kernel
theorem dX12_next_210 : decode cX12_next 210 = .ok (.aload_n 0, 1) := by decide +kernel
theorem dX12_next_211 : decode cX12_next 211 = .ok (.getfield 122, 3) := by decide +kernel
theorem dX12_next_214 : decode cX12_next 214 = .ok (.aload_n 0, 1) := by decide +kernel
theorem dX12_next_215 : decode cX12_next 215 = .ok (.getfield 119, 3) := by decide +kernel
theorem dX12_next_218 : decode cX12_next 218 = .ok (.isub, 1) := by decide +kernel
theorem dX12_next_219 : decode cX12_next 219 = .ok (.iconst 3, 1) := by decide +kernel
theorem dX12_next_220 : decode cX12_next 220 = .ok (.if_icmp .le 8, 3) := by decide +kernel
theorem dX12_next_223 : decode cX12_next 223 = .ok (.bipush 31, 2) := by decide +kernel
theorem dX12_next_225 : decode cX12_next 225 = .ok (.goto 5, 3) := by decide +kernel
theorem dX12_next_228 : decode cX12_next 228 = .ok (.bipush 29, 2) := by decide +kernel
theorem dX12_next_230 : decode cX12_next 230 = .ok (.putfield 129, 3) := by decide +kernel
theorem dX12_next_233 : decode cX12_next 233 = .ok (.goto 61, 3) := by decide +kernel
theorem dX12_next_236 : decode cX12_next 236 = .ok (.aload_n 0, 1) := by decide +kernel
theorem dX12_next_237 : decode cX12_next 237 = .ok (.dup, 1) := by decide +kernel
theorem dX12_next_238 : decode cX12_next 238 = .ok (.getfield 122, 3) := by decide +kernel
theorem dX12_next_241 : decode cX12_next 241 = .ok (.iconst 1, 1) := by decide +kernel
theorem dX12_next_242 : decode cX12_next 242 = .ok (.iadd, 1) := by decide +kernel
theorem dX12_next_243 : decode cX12_next 243 = .ok (.putfield 122, 3) := by decide +kernel
theorem dX12_next_246 : decode cX12_next 246 = .ok (.aload_n 0, 1) := by decide +kernel
theorem dX12_next_247 : decode cX12_next 247 = .ok (.bipush 31, 2) := by decide +kernel
theorem dX12_next_249 : decode cX12_next 249 = .ok (.putfield 129, 3) := by decide +kernel
theorem dX12_next_252 : decode cX12_next 252 = .ok (.iconst 0, 1) := by decide +kernel
theorem dX12_next_253 : decode cX12_next 253 = .ok (.istore_n 1, 1) := by decide +kernel
theorem dX12_next_254 : decode cX12_next 254 = .ok (.iload_n 1, 1) := by decide +kernel
theorem dX12_next_255 : decode cX12_next 255 = .ok (.ldc 145, 2) := by decide +kernel
theorem dX12_next_257 : decode cX12_next 257 = .ok (.invokevirtual 109, 3) := by decide +kernel
theorem dX12_next_260 : decode cX12_next 260 = .ok (.if_icmp .ge 34, 3) := by decide +kernel
theorem dX12_next_263 : decode cX12_next 263 = .ok (.aload_n 0, 1) := by decide +kernel
theorem dX12_next_264 : decode cX12_next 264 = .ok (.aload_n 0, 1) := by decide +kernel
theorem dX12_next_265 : decode cX12_next 265 = .ok (.getfield 119, 3) := by decide +kernel
theorem dX12_next_268 : decode cX12_next 268 = .ok (.invokevirtual 125, 3) := by decide +kernel
theorem dX12_next_271 : decode cX12_next 271 = .ok (.ldc 145, 2) := by decide +kernel
theorem dX12_next_273 : decode cX12_next 273 = .ok (.iload_n 1, 1) := by decide +kernel
theorem dX12_next_274 : decode cX12_next 274 = .ok (.invokevirtual 115, 3) := by decide +kernel
theorem dX12_next_277 : decode cX12_next 277 = .ok (.if_icmp .ne 11, 3) := by decide +kernel
theorem dX12_next_280 : decode cX12_next 280 = .ok (.aload_n 0, 1) := by decide +kernel
theorem dX12_next_281 : decode cX12_next 281 = .ok (.bipush 32, 2) := by decide +kernel
theorem dX12_next_283 : decode cX12_next 283 = .ok (.iload_n 1, 1) := by decide +kernel
theorem dX12_next_284 : decode cX12_next 284 = .ok (.iadd, 1) := by decide +kernel
theorem dX12_next_285 : decode cX12_next 285 = .ok (.putfield 129, 3) := by decide +kernel
theorem dX12_next_288 : decode cX12_next 288 = .ok (.iinc 1 1, 3) := by decide +kernel
theorem dX12_next_291 : decode cX12_next 291 = .ok (.goto (-37), 3) := by decide +kernel
theorem dX12_next_294 : decode cX12_next 294 = .ok (.return_, 1) := by decide +kernel
def f_X12_next_34  (k8 : zz_Mem → Option zz_Mem) (m : zz_Mem) : Option zz_Mem :=
  zz_letM (zz_setI m 0 6 ((m.1 0 6) + (1 : Int32))) fun m1 =>
  k8 m1
theorem t_X12_next_34 {l : Launch} {G : zz_G} (hN : 26 ≤ zz_N G) {k8 : zz_Mem → Option zz_Mem} (hk8 : ∀  (m : zz_Mem), zz_Sim zz_shM l G mX12_next 5 zz_vV zz_mV (k8 m) 8 [(0, .ref (zz_a G 0))] [] m) : ∀ (m : zz_Mem), zz_Sim zz_shM l G mX12_next 5 zz_vV zz_mV (f_X12_next_34 k8 m) 34 [(0, .ref (zz_a G 0))] [] m := by
  intro m
  unfold f_X12_next_34
  refine zs_aload_n dX12_next_34 rfl 0 rfl ?_
  refine zs_dup dX12_next_35 rfl ?_
  refine zs_getI fl_X12_119 dX12_next_36 (shm_0 hN) rfl ?_
  refine zs_iconst (v := (1 : Int32)) dX12_next_39 ci_1 ?_
  refine zs_iadd dX12_next_40 ?_
  refine zs_putI fl_X12_119 dX12_next_41 (shm_0 hN) rfl ⟨rfl, rfl⟩ (fun m1 => ?_)
  refine zs_goto (tgt := 8) dX12_next_44 (by decide) ?_
  exact hk8 _
def f_X12_next_254   : Nat → Int32 → zz_Mem → Option zz_Mem
  | 0, _, _ => none
  | n + 1, v1, m =>
  zz_bndR (f_J0_length_8abf5 0) fun r1 =>
  if r1 ≤ v1 then (
  some m)
  else (
  zz_bndR (f_X12_see m (m.1 0 6)) fun r2 =>
  zz_bndR (f_J0_charAt_5068e 0 v1) fun r3 =>
  if r2 = r3 then (
  zz_letM (zz_setI m 0 9 ((32 : Int32) + v1)) fun m5 =>
  zz_letI (v1 + (1 : Int32)) fun x6 =>
  f_X12_next_254 n x6 m5)
  else (
  zz_letI (v1 + (1 : Int32)) fun x4 =>
  f_X12_next_254 n x4 m))
theorem t_X12_next_254 {l : Launch} {G : zz_G} (hN : 26 ≤ zz_N G)  : ∀ (n : Nat) (v1 : Int32) (m : zz_Mem), zz_Sim zz_shM l G mX12_next 5 zz_vV zz_mV (f_X12_next_254 n v1 m) 254 [(0, .ref (zz_a G 0)), (1, .int v1)] [] m := by
  intro n
  induction n with
  | zero => intro _ _; exact zs_none
  | succ n ih =>
    intro v1 m
    rw [f_X12_next_254]
    refine zs_iload_n dX12_next_254 rfl 1 rfl ?_
    refine zs_ldcS (w := 0) dX12_next_255 (by decide +kernel) ?_
    refine zs_cV_iR (rest := [.int v1]) (k_J0_length_8abf5 hN (Nat.le_of_ble_eq_true rfl)  _) dX12_next_257 lv_X12_109 ok_J0_length_8abf5 (zz_rcv_s (Nat.le_of_ble_eq_true rfl)) (Nat.le_of_ble_eq_true rfl) rfl rfl (Nat.le_of_ble_eq_true rfl) (fun r1 => ?_)
    refine zs_icmp_ge (tgt := 294) dX12_next_260 (by decide) ?_ ?_
    · exact zs_vret dX12_next_294 rfl rfl rfl
    · refine zs_aload_n dX12_next_263 rfl 0 rfl ?_
      refine zs_aload_n dX12_next_264 rfl 0 rfl ?_
      refine zs_getI fl_X12_119 dX12_next_265 (shm_0 hN) rfl ?_
      refine zs_cV_iR (rest := []) (k_X12_see hN _ _) dX12_next_268 lv_X12_125 ok_X12_see (zz_rcv_o (shm_0 hN) rfl) (Nat.le_of_ble_eq_true rfl) rfl rfl (Nat.le_of_ble_eq_true rfl) (fun r2 => ?_)
      refine zs_ldcS (w := 0) dX12_next_271 (by decide +kernel) ?_
      refine zs_iload_n dX12_next_273 rfl 1 rfl ?_
      refine zs_cV_iR (rest := [.int r2]) (k_J0_charAt_5068e hN (Nat.le_of_ble_eq_true rfl) _ _) dX12_next_274 lv_X12_115 ok_J0_charAt_5068e (zz_rcv_s (Nat.le_of_ble_eq_true rfl)) (Nat.le_of_ble_eq_true rfl) rfl rfl (Nat.le_of_ble_eq_true rfl) (fun r3 => ?_)
      refine zs_icmp_ne (tgt := 288) dX12_next_277 (by decide) ?_ ?_
      · refine zs_iinc (fun y => [(1, .int y), (0, .ref (zz_a G 0))]) dX12_next_288 1 rfl ci_1 (Nat.le_of_ble_eq_true rfl) (fun _ => rfl) (fun x4 => ?_)
        refine zs_goto (tgt := 254) dX12_next_291 (by decide) ?_
        refine zs_sub [1, 0] rfl ?_
        exact ih _ _
      · refine zs_aload_n dX12_next_280 rfl 0 rfl ?_
        refine zs_bipush (v := (32 : Int32)) dX12_next_281 cb_32 ?_
        refine zs_iload_n dX12_next_283 rfl 1 rfl ?_
        refine zs_iadd dX12_next_284 ?_
        refine zs_putI fl_X12_129 dX12_next_285 (shm_0 hN) rfl ⟨rfl, rfl⟩ (fun m5 => ?_)
        refine zs_iinc (fun y => [(1, .int y), (0, .ref (zz_a G 0))]) dX12_next_288 1 rfl ci_1 (Nat.le_of_ble_eq_true rfl) (fun _ => rfl) (fun x6 => ?_)
        refine zs_goto (tgt := 254) dX12_next_291 (by decide) ?_
        refine zs_sub [1, 0] rfl ?_
        exact ih _ _
def f_X12_next_230   (s0 : Int32) (m : zz_Mem) : Option zz_Mem :=
  zz_letM (zz_setI m 0 9 s0) fun m1 =>
  some m1
theorem t_X12_next_230 {l : Launch} {G : zz_G} (hN : 26 ≤ zz_N G)  : ∀ (s0 : Int32) (m : zz_Mem), zz_Sim zz_shM l G mX12_next 5 zz_vV zz_mV (f_X12_next_230 s0 m) 230 [] [.int s0, .ref (zz_a G 0)] m := by
  intro s0 m
  unfold f_X12_next_230
  refine zs_putI fl_X12_129 dX12_next_230 (shm_0 hN) rfl ⟨rfl, rfl⟩ (fun m1 => ?_)
  refine zs_goto (tgt := 294) dX12_next_233 (by decide) ?_
  exact zs_vret dX12_next_294 rfl rfl rfl
def f_X12_next_209   (m : zz_Mem) : Option zz_Mem :=
  if ((m.1 0 7) - (m.1 0 6)) ≤ (3 : Int32) then (
  f_X12_next_230 (29 : Int32) m)
  else (
  f_X12_next_230 (31 : Int32) m)
theorem t_X12_next_209 {l : Launch} {G : zz_G} (hN : 26 ≤ zz_N G)  : ∀ (m : zz_Mem), zz_Sim zz_shM l G mX12_next 5 zz_vV zz_mV (f_X12_next_209 m) 209 [(0, .ref (zz_a G 0))] [] m := by
  intro m
  unfold f_X12_next_209
  refine zs_aload_n dX12_next_209 rfl 0 rfl ?_
  refine zs_aload_n dX12_next_210 rfl 0 rfl ?_
  refine zs_getI fl_X12_122 dX12_next_211 (shm_0 hN) rfl ?_
  refine zs_aload_n dX12_next_214 rfl 0 rfl ?_
  refine zs_getI fl_X12_119 dX12_next_215 (shm_0 hN) rfl ?_
  refine zs_isub dX12_next_218 ?_
  refine zs_iconst (v := (3 : Int32)) dX12_next_219 ci_3 ?_
  refine zs_icmp_le (tgt := 228) dX12_next_220 (by decide) ?_ ?_
  · refine zs_bipush (v := (29 : Int32)) dX12_next_228 cb_29 ?_
    refine zs_sub [] rfl ?_
    exact t_X12_next_230 hN _ _
  · refine zs_bipush (v := (31 : Int32)) dX12_next_223 cb_31 ?_
    refine zs_goto (tgt := 230) dX12_next_225 (by decide) ?_
    refine zs_sub [] rfl ?_
    exact t_X12_next_230 hN _ _
def f_X12_next_196  (k146 : zz_Mem → Option zz_Mem) (m : zz_Mem) : Option zz_Mem :=
  zz_letM (zz_setI m 0 7 ((m.1 0 7) + (1 : Int32))) fun m1 =>
  k146 m1
theorem t_X12_next_196 {l : Launch} {G : zz_G} (hN : 26 ≤ zz_N G) {k146 : zz_Mem → Option zz_Mem} (hk146 : ∀  (m : zz_Mem), zz_Sim zz_shM l G mX12_next 5 zz_vV zz_mV (k146 m) 146 [(0, .ref (zz_a G 0))] [] m) : ∀ (m : zz_Mem), zz_Sim zz_shM l G mX12_next 5 zz_vV zz_mV (f_X12_next_196 k146 m) 196 [(0, .ref (zz_a G 0))] [] m := by
  intro m
  unfold f_X12_next_196
  refine zs_aload_n dX12_next_196 rfl 0 rfl ?_
  refine zs_dup dX12_next_197 rfl ?_
  refine zs_getI fl_X12_122 dX12_next_198 (shm_0 hN) rfl ?_
  refine zs_iconst (v := (1 : Int32)) dX12_next_201 ci_1 ?_
  refine zs_iadd dX12_next_202 ?_
  refine zs_putI fl_X12_122 dX12_next_203 (shm_0 hN) rfl ⟨rfl, rfl⟩ (fun m1 => ?_)
  refine zs_goto (tgt := 146) dX12_next_206 (by decide) ?_
  exact hk146 _
def f_X12_next_146   : Nat → zz_Mem → Option zz_Mem
  | 0, _ => none
  | n + 1, m =>
  zz_bndR (f_X12_see m (m.1 0 7)) fun r1 =>
  zz_bndR (f_X12_isDigit r1) fun r2 =>
  if r2 = 0 then (
  f_X12_next_209 m)
  else (
  if (3 : Int32) ≤ ((m.1 0 7) - (m.1 0 6)) then (
  f_X12_next_196 (f_X12_next_146 n) m)
  else (
  zz_bndR (f_X12_see m (m.1 0 7)) fun r3 =>
  zz_letM (zz_setI m 0 10 ((((10 : Int32) * (m.1 0 10)) + r3) - (48 : Int32))) fun m4 =>
  f_X12_next_196 (f_X12_next_146 n) m4))
theorem t_X12_next_146 {l : Launch} {G : zz_G} (hN : 26 ≤ zz_N G)  : ∀ (n : Nat) (m : zz_Mem), zz_Sim zz_shM l G mX12_next 5 zz_vV zz_mV (f_X12_next_146 n m) 146 [(0, .ref (zz_a G 0))] [] m := by
  intro n
  induction n with
  | zero => intro _; exact zs_none
  | succ n ih =>
    intro m
    rw [f_X12_next_146]
    refine zs_aload_n dX12_next_146 rfl 0 rfl ?_
    refine zs_aload_n dX12_next_147 rfl 0 rfl ?_
    refine zs_getI fl_X12_122 dX12_next_148 (shm_0 hN) rfl ?_
    refine zs_cV_iR (rest := []) (k_X12_see hN _ _) dX12_next_151 lv_X12_125 ok_X12_see (zz_rcv_o (shm_0 hN) rfl) (Nat.le_of_ble_eq_true rfl) rfl rfl (Nat.le_of_ble_eq_true rfl) (fun r1 => ?_)
    refine zs_cS_iR (rest := []) (k_X12_isDigit hN _ _) dX12_next_154 ls_X12_139 ok_X12_isDigit (Nat.le_of_ble_eq_true rfl) rfl rfl (Nat.le_of_ble_eq_true rfl) (fun r2 => ?_)
    refine zs_if_eq (tgt := 209) dX12_next_157 (by decide) ?_ ?_
    · exact t_X12_next_209 hN _
    · refine zs_aload_n dX12_next_160 rfl 0 rfl ?_
      refine zs_getI fl_X12_122 dX12_next_161 (shm_0 hN) rfl ?_
      refine zs_aload_n dX12_next_164 rfl 0 rfl ?_
      refine zs_getI fl_X12_119 dX12_next_165 (shm_0 hN) rfl ?_
      refine zs_isub dX12_next_168 ?_
      refine zs_iconst (v := (3 : Int32)) dX12_next_169 ci_3 ?_
      refine zs_icmp_ge (tgt := 196) dX12_next_170 (by decide) ?_ ?_
      · exact t_X12_next_196 hN ih _
      · refine zs_aload_n dX12_next_173 rfl 0 rfl ?_
        refine zs_bipush (v := (10 : Int32)) dX12_next_174 cb_10 ?_
        refine zs_aload_n dX12_next_176 rfl 0 rfl ?_
        refine zs_getI fl_X12_142 dX12_next_177 (shm_0 hN) rfl ?_
        refine zs_imul dX12_next_180 ?_
        refine zs_aload_n dX12_next_181 rfl 0 rfl ?_
        refine zs_aload_n dX12_next_182 rfl 0 rfl ?_
        refine zs_getI fl_X12_122 dX12_next_183 (shm_0 hN) rfl ?_
        refine zs_cV_iR (rest := [.int ((10 : Int32) * (m.1 0 10)), .ref (zz_a G 0)]) (k_X12_see hN _ _) dX12_next_186 lv_X12_125 ok_X12_see (zz_rcv_o (shm_0 hN) rfl) (Nat.le_of_ble_eq_true rfl) rfl rfl (Nat.le_of_ble_eq_true rfl) (fun r3 => ?_)
        refine zs_iadd dX12_next_189 ?_
        refine zs_bipush (v := (48 : Int32)) dX12_next_190 cb_48 ?_
        refine zs_isub dX12_next_192 ?_
        refine zs_putI fl_X12_142 dX12_next_193 (shm_0 hN) rfl ⟨rfl, rfl⟩ (fun m4 => ?_)
        exact t_X12_next_196 hN ih _
def f_X12_next_116   (m : zz_Mem) : Option zz_Mem :=
  zz_bndR (f_X12_keyAt m) fun r1 =>
  zz_letM (zz_setI m 0 9 r1) fun m2 =>
  some m2
theorem t_X12_next_116 {l : Launch} {G : zz_G} (hN : 26 ≤ zz_N G)  : ∀ (m : zz_Mem), zz_Sim zz_shM l G mX12_next 5 zz_vV zz_mV (f_X12_next_116 m) 116 [(0, .ref (zz_a G 0))] [] m := by
  intro m
  unfold f_X12_next_116
  refine zs_aload_n dX12_next_116 rfl 0 rfl ?_
  refine zs_aload_n dX12_next_117 rfl 0 rfl ?_
  refine zs_cV_iR (rest := [.ref (zz_a G 0)]) (k_X12_keyAt hN  _) dX12_next_118 lv_X12_136 ok_X12_keyAt (zz_rcv_o (shm_0 hN) rfl) (Nat.le_of_ble_eq_true rfl) rfl rfl (Nat.le_of_ble_eq_true rfl) (fun r1 => ?_)
  refine zs_putI fl_X12_129 dX12_next_121 (shm_0 hN) rfl ⟨rfl, rfl⟩ (fun m2 => ?_)
  refine zs_goto (tgt := 294) dX12_next_124 (by decide) ?_
  exact zs_vret dX12_next_294 rfl rfl rfl
def f_X12_next_89   : Nat → zz_Mem → Option zz_Mem
  | 0, _ => none
  | n + 1, m =>
  zz_bndR (f_X12_see m (m.1 0 7)) fun r1 =>
  zz_bndR (f_X12_isSmall r1) fun r2 =>
  if r2 = 0 then (
  f_X12_next_116 m)
  else (
  zz_letM (zz_setI m 0 7 ((m.1 0 7) + (1 : Int32))) fun m3 =>
  f_X12_next_89 n m3)
theorem t_X12_next_89 {l : Launch} {G : zz_G} (hN : 26 ≤ zz_N G)  : ∀ (n : Nat) (m : zz_Mem), zz_Sim zz_shM l G mX12_next 5 zz_vV zz_mV (f_X12_next_89 n m) 89 [(0, .ref (zz_a G 0))] [] m := by
  intro n
  induction n with
  | zero => intro _; exact zs_none
  | succ n ih =>
    intro m
    rw [f_X12_next_89]
    refine zs_aload_n dX12_next_89 rfl 0 rfl ?_
    refine zs_aload_n dX12_next_90 rfl 0 rfl ?_
    refine zs_getI fl_X12_122 dX12_next_91 (shm_0 hN) rfl ?_
    refine zs_cV_iR (rest := []) (k_X12_see hN _ _) dX12_next_94 lv_X12_125 ok_X12_see (zz_rcv_o (shm_0 hN) rfl) (Nat.le_of_ble_eq_true rfl) rfl rfl (Nat.le_of_ble_eq_true rfl) (fun r1 => ?_)
    refine zs_cS_iR (rest := []) (k_X12_isSmall hN _ _) dX12_next_97 ls_X12_132 ok_X12_isSmall (Nat.le_of_ble_eq_true rfl) rfl rfl (Nat.le_of_ble_eq_true rfl) (fun r2 => ?_)
    refine zs_if_eq (tgt := 116) dX12_next_100 (by decide) ?_ ?_
    · exact t_X12_next_116 hN _
    · refine zs_aload_n dX12_next_103 rfl 0 rfl ?_
      refine zs_dup dX12_next_104 rfl ?_
      refine zs_getI fl_X12_122 dX12_next_105 (shm_0 hN) rfl ?_
      refine zs_iconst (v := (1 : Int32)) dX12_next_108 ci_1 ?_
      refine zs_iadd dX12_next_109 ?_
      refine zs_putI fl_X12_122 dX12_next_110 (shm_0 hN) rfl ⟨rfl, rfl⟩ (fun m3 => ?_)
      refine zs_goto (tgt := 89) dX12_next_113 (by decide) ?_
      exact ih _
def f_X12_next_47   (m : zz_Mem) : Option zz_Mem :=
  zz_letM (zz_setI m 0 7 (m.1 0 6)) fun m1 =>
  if (m1.1 0 6) < (m1.1 0 8) then (
  zz_bndR (f_X12_see m1 (m1.1 0 6)) fun r2 =>
  zz_bndR (f_X12_isSmall r2) fun r3 =>
  if r3 = 0 then (
  zz_bndR (f_X12_see m1 (m1.1 0 6)) fun r4 =>
  zz_bndR (f_X12_isDigit r4) fun r5 =>
  if r5 = 0 then (
  zz_letM (zz_setI m1 0 7 ((m1.1 0 7) + (1 : Int32))) fun m6 =>
  zz_letM (zz_setI m6 0 9 (31 : Int32)) fun m7 =>
  f_X12_next_254 zz_fuel (0 : Int32) m7)
  else (
  zz_letM (zz_setI m1 0 10 (0 : Int32)) fun m8 =>
  f_X12_next_146 zz_fuel m8))
  else (
  f_X12_next_89 zz_fuel m1))
  else (
  zz_letM (zz_setI m1 0 9 (30 : Int32)) fun m9 =>
  some m9)
theorem t_X12_next_47 {l : Launch} {G : zz_G} (hN : 26 ≤ zz_N G)  : ∀ (m : zz_Mem), zz_Sim zz_shM l G mX12_next 5 zz_vV zz_mV (f_X12_next_47 m) 47 [(0, .ref (zz_a G 0))] [] m := by
  intro m
  unfold f_X12_next_47
  refine zs_aload_n dX12_next_47 rfl 0 rfl ?_
  refine zs_aload_n dX12_next_48 rfl 0 rfl ?_
  refine zs_getI fl_X12_119 dX12_next_49 (shm_0 hN) rfl ?_
  refine zs_putI fl_X12_122 dX12_next_52 (shm_0 hN) rfl ⟨rfl, rfl⟩ (fun m1 => ?_)
  refine zs_aload_n dX12_next_55 rfl 0 rfl ?_
  refine zs_getI fl_X12_119 dX12_next_56 (shm_0 hN) rfl ?_
  refine zs_aload_n dX12_next_59 rfl 0 rfl ?_
  refine zs_getI fl_X12_104 dX12_next_60 (shm_0 hN) rfl ?_
  refine zs_icmp_lt (tgt := 75) dX12_next_63 (by decide) ?_ ?_
  · refine zs_aload_n dX12_next_75 rfl 0 rfl ?_
    refine zs_aload_n dX12_next_76 rfl 0 rfl ?_
    refine zs_getI fl_X12_119 dX12_next_77 (shm_0 hN) rfl ?_
    refine zs_cV_iR (rest := []) (k_X12_see hN _ _) dX12_next_80 lv_X12_125 ok_X12_see (zz_rcv_o (shm_0 hN) rfl) (Nat.le_of_ble_eq_true rfl) rfl rfl (Nat.le_of_ble_eq_true rfl) (fun r2 => ?_)
    refine zs_cS_iR (rest := []) (k_X12_isSmall hN _ _) dX12_next_83 ls_X12_132 ok_X12_isSmall (Nat.le_of_ble_eq_true rfl) rfl rfl (Nat.le_of_ble_eq_true rfl) (fun r3 => ?_)
    refine zs_if_eq (tgt := 127) dX12_next_86 (by decide) ?_ ?_
    · refine zs_aload_n dX12_next_127 rfl 0 rfl ?_
      refine zs_aload_n dX12_next_128 rfl 0 rfl ?_
      refine zs_getI fl_X12_119 dX12_next_129 (shm_0 hN) rfl ?_
      refine zs_cV_iR (rest := []) (k_X12_see hN _ _) dX12_next_132 lv_X12_125 ok_X12_see (zz_rcv_o (shm_0 hN) rfl) (Nat.le_of_ble_eq_true rfl) rfl rfl (Nat.le_of_ble_eq_true rfl) (fun r4 => ?_)
      refine zs_cS_iR (rest := []) (k_X12_isDigit hN _ _) dX12_next_135 ls_X12_139 ok_X12_isDigit (Nat.le_of_ble_eq_true rfl) rfl rfl (Nat.le_of_ble_eq_true rfl) (fun r5 => ?_)
      refine zs_if_eq (tgt := 236) dX12_next_138 (by decide) ?_ ?_
      · refine zs_aload_n dX12_next_236 rfl 0 rfl ?_
        refine zs_dup dX12_next_237 rfl ?_
        refine zs_getI fl_X12_122 dX12_next_238 (shm_0 hN) rfl ?_
        refine zs_iconst (v := (1 : Int32)) dX12_next_241 ci_1 ?_
        refine zs_iadd dX12_next_242 ?_
        refine zs_putI fl_X12_122 dX12_next_243 (shm_0 hN) rfl ⟨rfl, rfl⟩ (fun m6 => ?_)
        refine zs_aload_n dX12_next_246 rfl 0 rfl ?_
        refine zs_bipush (v := (31 : Int32)) dX12_next_247 cb_31 ?_
        refine zs_putI fl_X12_129 dX12_next_249 (shm_0 hN) rfl ⟨rfl, rfl⟩ (fun m7 => ?_)
        refine zs_iconst (v := (0 : Int32)) dX12_next_252 ci_0 ?_
        refine zs_istore_n [(1, .int (0 : Int32)), (0, .ref (zz_a G 0))] dX12_next_253 rfl (Nat.le_of_ble_eq_true rfl) rfl ?_
        refine zs_sub [1, 0] rfl ?_
        exact t_X12_next_254 hN zz_fuel _ _
      · refine zs_aload_n dX12_next_141 rfl 0 rfl ?_
        refine zs_iconst (v := (0 : Int32)) dX12_next_142 ci_0 ?_
        refine zs_putI fl_X12_142 dX12_next_143 (shm_0 hN) rfl ⟨rfl, rfl⟩ (fun m8 => ?_)
        exact t_X12_next_146 hN zz_fuel _
    · exact t_X12_next_89 hN zz_fuel _
  · refine zs_aload_n dX12_next_66 rfl 0 rfl ?_
    refine zs_bipush (v := (30 : Int32)) dX12_next_67 cb_30 ?_
    refine zs_putI fl_X12_129 dX12_next_69 (shm_0 hN) rfl ⟨rfl, rfl⟩ (fun m9 => ?_)
    refine zs_goto (tgt := 294) dX12_next_72 (by decide) ?_
    exact zs_vret dX12_next_294 rfl rfl rfl
def f_X12_next_8   : Nat → zz_Mem → Option zz_Mem
  | 0, _ => none
  | n + 1, m =>
  zz_bndR (f_X12_see m (m.1 0 6)) fun r1 =>
  if r1 = (10 : Int32) then (
  f_X12_next_34 (f_X12_next_8 n) m)
  else (
  zz_bndR (f_X12_see m (m.1 0 6)) fun r2 =>
  if r2 = (32 : Int32) then (
  f_X12_next_34 (f_X12_next_8 n) m)
  else (
  f_X12_next_47 m))
theorem t_X12_next_8 {l : Launch} {G : zz_G} (hN : 26 ≤ zz_N G)  : ∀ (n : Nat) (m : zz_Mem), zz_Sim zz_shM l G mX12_next 5 zz_vV zz_mV (f_X12_next_8 n m) 8 [(0, .ref (zz_a G 0))] [] m := by
  intro n
  induction n with
  | zero => intro _; exact zs_none
  | succ n ih =>
    intro m
    rw [f_X12_next_8]
    refine zs_aload_n dX12_next_8 rfl 0 rfl ?_
    refine zs_aload_n dX12_next_9 rfl 0 rfl ?_
    refine zs_getI fl_X12_119 dX12_next_10 (shm_0 hN) rfl ?_
    refine zs_cV_iR (rest := []) (k_X12_see hN _ _) dX12_next_13 lv_X12_125 ok_X12_see (zz_rcv_o (shm_0 hN) rfl) (Nat.le_of_ble_eq_true rfl) rfl rfl (Nat.le_of_ble_eq_true rfl) (fun r1 => ?_)
    refine zs_bipush (v := (10 : Int32)) dX12_next_16 cb_10 ?_
    refine zs_icmp_eq (tgt := 34) dX12_next_18 (by decide) ?_ ?_
    · exact t_X12_next_34 hN ih _
    · refine zs_aload_n dX12_next_21 rfl 0 rfl ?_
      refine zs_aload_n dX12_next_22 rfl 0 rfl ?_
      refine zs_getI fl_X12_119 dX12_next_23 (shm_0 hN) rfl ?_
      refine zs_cV_iR (rest := []) (k_X12_see hN _ _) dX12_next_26 lv_X12_125 ok_X12_see (zz_rcv_o (shm_0 hN) rfl) (Nat.le_of_ble_eq_true rfl) rfl rfl (Nat.le_of_ble_eq_true rfl) (fun r2 => ?_)
      refine zs_bipush (v := (32 : Int32)) dX12_next_29 cb_32 ?_
      refine zs_icmp_ne (tgt := 47) dX12_next_31 (by decide) ?_ ?_
      · exact t_X12_next_47 hN _
      · exact t_X12_next_34 hN ih _
def f_X12_next   (m : zz_Mem) : Option zz_Mem :=
  zz_letM (zz_setI m 0 6 (m.1 0 7)) fun m1 =>
  f_X12_next_8 zz_fuel m1
theorem k_X12_next {l : Launch} {G : zz_G} (hN : 26 ≤ zz_N G) : ∀ (m : zz_Mem), zz_Con zz_shM l G mX12_next 5 [.ref (zz_a G 0)] zz_vV zz_mV (f_X12_next m) m := by
  intro m
  refine zz_con (lv := [(0, .ref (zz_a G 0))]) (by decide +kernel) (Nat.le_of_ble_eq_true rfl) rfl ?_
  unfold f_X12_next
  refine zs_aload_n dX12_next_0 rfl 0 rfl ?_
  refine zs_aload_n dX12_next_1 rfl 0 rfl ?_
  refine zs_getI fl_X12_122 dX12_next_2 (shm_0 hN) rfl ?_
  refine zs_putI fl_X12_119 dX12_next_5 (shm_0 hN) rfl ⟨rfl, rfl⟩ (fun m1 => ?_)
  exact t_X12_next_8 hN zz_fuel _
/-! X12_fails: PillarDeskModel.fails(I)V -/
theorem dX12_fails_0 : decode cX12_fails 0 = .ok (.aload_n 0, 1) := by decide +kernel
theorem dX12_fails_1 : decode cX12_fails 1 = .ok (.getfield 147, 3) := by decide +kernel
theorem dX12_fails_4 : decode cX12_fails 4 = .ok (.ifCond .eq 4, 3) := by decide +kernel
theorem dX12_fails_7 : decode cX12_fails 7 = .ok (.return_, 1) := by decide +kernel
theorem dX12_fails_8 : decode cX12_fails 8 = .ok (.aload_n 0, 1) := by decide +kernel
theorem dX12_fails_9 : decode cX12_fails 9 = .ok (.aload_n 0, 1) := by decide +kernel
theorem dX12_fails_10 : decode cX12_fails 10 = .ok (.getfield 129, 3) := by decide +kernel
theorem dX12_fails_13 : decode cX12_fails 13 = .ok (.bipush 31, 2) := by decide +kernel
theorem dX12_fails_15 : decode cX12_fails 15 = .ok (.if_icmp .ne 7, 3) := by decide +kernel
theorem dX12_fails_18 : decode cX12_fails 18 = .ok (.iconst 1, 1) := by decide +kernel
theorem dX12_fails_19 : decode cX12_fails 19 = .ok (.goto 4, 3) := by decide +kernel
theorem dX12_fails_22 : decode cX12_fails 22 = .ok (.iload_n 1, 1) := by decide +kernel
theorem dX12_fails_23 : decode cX12_fails 23 = .ok (.putfield 147, 3) := by decide +kernel
theorem dX12_fails_26 : decode cX12_fails 26 = .ok (.aload_n 0, 1) := by decide +kernel
theorem dX12_fails_27 : decode cX12_fails 27 = .ok (.aload_n 0, 1) := by decide +kernel
theorem dX12_fails_28 : decode cX12_fails 28 = .ok (.getfield 119, 3) := by decide +kernel
theorem dX12_fails_31 : decode cX12_fails 31 = .ok (.putfield 150, 3) := by decide +kernel
theorem dX12_fails_34 : decode cX12_fails 34 = .ok (.return_, 1) := by decide +kernel
def f_X12_fails_23   (s0 : Int32) (m : zz_Mem) : Option zz_Mem :=
  zz_letM (zz_setI m 0 11 s0) fun m1 =>
  zz_letM (zz_setI m1 0 12 (m1.1 0 6)) fun m2 =>
  some m2
theorem t_X12_fails_23 {l : Launch} {G : zz_G} (hN : 26 ≤ zz_N G)  : ∀ (s0 : Int32) (m : zz_Mem), zz_Sim zz_shM l G mX12_fails 0 zz_vV zz_mV (f_X12_fails_23 s0 m) 23 [(0, .ref (zz_a G 0))] [.int s0, .ref (zz_a G 0)] m := by
  intro s0 m
  unfold f_X12_fails_23
  refine zs_putI fl_X12_147 dX12_fails_23 (shm_0 hN) rfl ⟨rfl, rfl⟩ (fun m1 => ?_)
  refine zs_aload_n dX12_fails_26 rfl 0 rfl ?_
  refine zs_aload_n dX12_fails_27 rfl 0 rfl ?_
  refine zs_getI fl_X12_119 dX12_fails_28 (shm_0 hN) rfl ?_
  refine zs_putI fl_X12_150 dX12_fails_31 (shm_0 hN) rfl ⟨rfl, rfl⟩ (fun m2 => ?_)
  exact zs_vret dX12_fails_34 rfl rfl rfl
def f_X12_fails  (p1 : Int32) (m : zz_Mem) : Option zz_Mem :=
  if (m.1 0 11) = 0 then (
  if (m.1 0 9) = (31 : Int32) then (
  f_X12_fails_23 (1 : Int32) m)
  else (
  f_X12_fails_23 p1 m))
  else (
  some m)
theorem k_X12_fails {l : Launch} {G : zz_G} (hN : 26 ≤ zz_N G) : ∀ (p1 : Int32) (m : zz_Mem), zz_Con zz_shM l G mX12_fails 0 [.ref (zz_a G 0), .int p1] zz_vV zz_mV (f_X12_fails p1 m) m := by
  intro p1 m
  refine zz_con (lv := [(0, .ref (zz_a G 0)), (1, .int p1)]) (by decide +kernel) (Nat.le_of_ble_eq_true rfl) rfl ?_
  unfold f_X12_fails
  refine zs_aload_n dX12_fails_0 rfl 0 rfl ?_
  refine zs_getI fl_X12_147 dX12_fails_1 (shm_0 hN) rfl ?_
  refine zs_if_eq (tgt := 8) dX12_fails_4 (by decide) ?_ ?_
  · refine zs_aload_n dX12_fails_8 rfl 0 rfl ?_
    refine zs_aload_n dX12_fails_9 rfl 0 rfl ?_
    refine zs_getI fl_X12_129 dX12_fails_10 (shm_0 hN) rfl ?_
    refine zs_bipush (v := (31 : Int32)) dX12_fails_13 cb_31 ?_
    refine zs_icmp_ne (tgt := 22) dX12_fails_15 (by decide) ?_ ?_
    · refine zs_iload_n dX12_fails_22 rfl 1 rfl ?_
      refine zs_sub [0] rfl ?_
      exact t_X12_fails_23 hN _ _
    · refine zs_iconst (v := (1 : Int32)) dX12_fails_18 ci_1 ?_
      refine zs_goto (tgt := 23) dX12_fails_19 (by decide) ?_
      refine zs_sub [0] rfl ?_
      exact t_X12_fails_23 hN _ _
  · exact zs_vret dX12_fails_7 rfl rfl rfl
/-! X12_is: PillarDeskModel.is(I)Z -/
theorem dX12_is_0 : decode cX12_is 0 = .ok (.aload_n 0, 1) := by decide +kernel
theorem dX12_is_1 : decode cX12_is 1 = .ok (.getfield 147, 3) := by decide +kernel
theorem dX12_is_4 : decode cX12_is 4 = .ok (.ifCond .ne 15, 3) := by decide +kernel
theorem dX12_is_7 : decode cX12_is 7 = .ok (.aload_n 0, 1) := by decide +kernel
theorem dX12_is_8 : decode cX12_is 8 = .ok (.getfield 129, 3) := by decide +kernel
theorem dX12_is_11 : decode cX12_is 11 = .ok (.iload_n 1, 1) := by decide +kernel
theorem dX12_is_12 : decode cX12_is 12 = .ok (.if_icmp .ne 7, 3) := by decide +kernel
theorem dX12_is_15 : decode cX12_is 15 = .ok (.iconst 1, 1) := by decide +kernel
theorem dX12_is_16 : decode cX12_is 16 = .ok (.goto 4, 3) := by decide +kernel
theorem dX12_is_19 : decode cX12_is 19 = .ok (.iconst 0, 1) := by decide +kernel
theorem dX12_is_20 : decode cX12_is 20 = .ok (.ireturn, 1) := by decide +kernel
def f_X12_is (m : zz_Mem) (p1 : Int32) : Option Int32 :=
  if (m.1 0 11) = 0 then (
  if (m.1 0 9) = p1 then (
  some (1 : Int32))
  else (
  some (0 : Int32)))
  else (
  some (0 : Int32))
theorem k_X12_is {l : Launch} {G : zz_G} (hN : 26 ≤ zz_N G) : ∀ (p1 : Int32) (m : zz_Mem), zz_Con zz_shM l G mX12_is 0 [.ref (zz_a G 0), .int p1] zz_vIr (zz_mC m) (f_X12_is m p1) m := by
  intro p1 m
  refine zz_con (lv := [(0, .ref (zz_a G 0)), (1, .int p1)]) (by decide +kernel) (Nat.le_of_ble_eq_true rfl) rfl ?_
  unfold f_X12_is
  refine zs_aload_n dX12_is_0 rfl 0 rfl ?_
  refine zs_getI fl_X12_147 dX12_is_1 (shm_0 hN) rfl ?_
  refine zs_if_ne (tgt := 19) dX12_is_4 (by decide) ?_ ?_
  · refine zs_iconst (v := (0 : Int32)) dX12_is_19 ci_0 ?_
    exact zs_zret dX12_is_20 rfl rfl rfl rfl
  · refine zs_aload_n dX12_is_7 rfl 0 rfl ?_
    refine zs_getI fl_X12_129 dX12_is_8 (shm_0 hN) rfl ?_
    refine zs_iload_n dX12_is_11 rfl 1 rfl ?_
    refine zs_icmp_ne (tgt := 19) dX12_is_12 (by decide) ?_ ?_
    · refine zs_iconst (v := (0 : Int32)) dX12_is_19 ci_0 ?_
      exact zs_zret dX12_is_20 rfl rfl rfl rfl
    · refine zs_iconst (v := (1 : Int32)) dX12_is_15 ci_1 ?_
      refine zs_goto (tgt := 20) dX12_is_16 (by decide) ?_
      exact zs_zret dX12_is_20 rfl rfl rfl rfl
/-! X12_eats: PillarDeskModel.eats(I)Z -/
theorem dX12_eats_0 : decode cX12_eats 0 = .ok (.aload_n 0, 1) := by decide +kernel
theorem dX12_eats_1 : decode cX12_eats 1 = .ok (.iload_n 1, 1) := by decide +kernel
theorem dX12_eats_2 : decode cX12_eats 2 = .ok (.invokevirtual 153, 3) := by decide +kernel
theorem dX12_eats_5 : decode cX12_eats 5 = .ok (.ifCond .ne 5, 3) := by decide +kernel
theorem dX12_eats_8 : decode cX12_eats 8 = .ok (.iconst 0, 1) := by decide +kernel
theorem dX12_eats_9 : decode cX12_eats 9 = .ok (.ireturn, 1) := by decide +kernel
theorem dX12_eats_10 : decode cX12_eats 10 = .ok (.aload_n 0, 1) := by decide +kernel
theorem dX12_eats_11 : decode cX12_eats 11 = .ok (.invokevirtual 156, 3) := by decide +kernel
theorem dX12_eats_14 : decode cX12_eats 14 = .ok (.iconst 1, 1) := by decide +kernel
theorem dX12_eats_15 : decode cX12_eats 15 = .ok (.ireturn, 1) := by decide +kernel
def f_X12_eats  (p1 : Int32) (m : zz_Mem) : Option (Int32 × zz_Mem) :=
  zz_bndR (f_X12_is m p1) fun r1 =>
  if r1 = 0 then (
  some ((0 : Int32), m))
  else (
  zz_bndR (f_X12_next m) fun m2 =>
  some ((1 : Int32), m2))
theorem k_X12_eats {l : Launch} {G : zz_G} (hN : 26 ≤ zz_N G) : ∀ (p1 : Int32) (m : zz_Mem), zz_Con zz_shM l G mX12_eats 6 [.ref (zz_a G 0), .int p1] zz_vI zz_m2 (f_X12_eats p1 m) m := by
  intro p1 m
  refine zz_con (lv := [(0, .ref (zz_a G 0)), (1, .int p1)]) (by decide +kernel) (Nat.le_of_ble_eq_true rfl) rfl ?_
  unfold f_X12_eats
  refine zs_aload_n dX12_eats_0 rfl 0 rfl ?_
  refine zs_iload_n dX12_eats_1 rfl 1 rfl ?_
  refine zs_cV_iR (rest := []) (k_X12_is hN _ _) dX12_eats_2 lv_X12_153 ok_X12_is (zz_rcv_o (shm_0 hN) rfl) (Nat.le_of_ble_eq_true rfl) rfl rfl (Nat.le_of_ble_eq_true rfl) (fun r1 => ?_)
  refine zs_if_ne (tgt := 10) dX12_eats_5 (by decide) ?_ ?_
  · refine zs_aload_n dX12_eats_10 rfl 0 rfl ?_
    refine zs_cV_vW (rest := []) (k_X12_next hN  _) dX12_eats_11 lv_X12_156 ok_X12_next (zz_rcv_o (shm_0 hN) rfl) (Nat.le_of_ble_eq_true rfl) rfl rfl (Nat.le_of_ble_eq_true rfl) (fun m2 => ?_)
    refine zs_iconst (v := (1 : Int32)) dX12_eats_14 ci_1 ?_
    exact zs_zret dX12_eats_15 rfl rfl rfl rfl
  · refine zs_iconst (v := (0 : Int32)) dX12_eats_8 ci_0 ?_
    exact zs_zret dX12_eats_9 rfl rfl rfl rfl
/-! X12_takes: PillarDeskModel.takes(II)I -/
theorem dX12_takes_0 : decode cX12_takes 0 = .ok (.aload_n 0, 1) := by decide +kernel
theorem dX12_takes_1 : decode cX12_takes 1 = .ok (.bipush 29, 2) := by decide +kernel
theorem dX12_takes_3 : decode cX12_takes 3 = .ok (.invokevirtual 153, 3) := by decide +kernel
theorem dX12_takes_6 : decode cX12_takes 6 = .ok (.ifCond .ne 11, 3) := by decide +kernel
theorem dX12_takes_9 : decode cX12_takes 9 = .ok (.aload_n 0, 1) := by decide +kernel
theorem dX12_takes_10 : decode cX12_takes 10 = .ok (.iconst 2, 1) := by decide +kernel
theorem dX12_takes_11 : decode cX12_takes 11 = .ok (.invokevirtual 159, 3) := by decide +kernel
theorem dX12_takes_14 : decode cX12_takes 14 = .ok (.goto 23, 3) := by decide +kernel
theorem dX12_takes_17 : decode cX12_takes 17 = .ok (.aload_n 0, 1) := by decide +kernel
theorem dX12_takes_18 : decode cX12_takes 18 = .ok (.getfield 142, 3) := by decide +kernel
theorem dX12_takes_21 : decode cX12_takes 21 = .ok (.i2l, 1) := by decide +kernel
theorem dX12_takes_22 : decode cX12_takes 22 = .ok (.iload_n 1, 1) := by decide +kernel
theorem dX12_takes_23 : decode cX12_takes 23 = .ok (.i2l, 1) := by decide +kernel
theorem dX12_takes_24 : decode cX12_takes 24 = .ok (.iload_n 2, 1) := by decide +kernel
theorem dX12_takes_25 : decode cX12_takes 25 = .ok (.i2l, 1) := by decide +kernel
theorem dX12_takes_26 : decode cX12_takes 26 = .ok (.invokestatic 163, 3) := by decide +kernel
theorem dX12_takes_29 : decode cX12_takes 29 = .ok (.ifCond .ne 8, 3) := by decide +kernel
theorem dX12_takes_32 : decode cX12_takes 32 = .ok (.aload_n 0, 1) := by decide +kernel
theorem dX12_takes_33 : decode cX12_takes 33 = .ok (.iconst 3, 1) := by decide +kernel
theorem dX12_takes_34 : decode cX12_takes 34 = .ok (.invokevirtual 159, 3) := by decide +kernel
theorem dX12_takes_37 : decode cX12_takes 37 = .ok (.aload_n 0, 1) := by decide +kernel
theorem dX12_takes_38 : decode cX12_takes 38 = .ok (.getfield 142, 3) := by decide +kernel
theorem dX12_takes_41 : decode cX12_takes 41 = .ok (.istore_n 3, 1) := by decide +kernel
theorem dX12_takes_42 : decode cX12_takes 42 = .ok (.aload_n 0, 1) := by decide +kernel
theorem dX12_takes_43 : decode cX12_takes 43 = .ok (.getfield 147, 3) := by decide +kernel
theorem dX12_takes_46 : decode cX12_takes 46 = .ok (.ifCond .ne 7, 3) := by decide +kernel
theorem dX12_takes_49 : decode cX12_takes 49 = .ok (.aload_n 0, 1) := by decide +kernel
theorem dX12_takes_50 : decode cX12_takes 50 = .ok (.invokevirtual 156, 3) := by decide +kernel
theorem dX12_takes_53 : decode cX12_takes 53 = .ok (.iload_n 3, 1) := by decide +kernel
theorem dX12_takes_54 : decode cX12_takes 54 = .ok (.ireturn, 1) := by decide +kernel
def f_X12_takes_37   (m : zz_Mem) : Option (Int32 × zz_Mem) :=
  zz_letI (m.1 0 10) fun x1 =>
  if (m.1 0 11) = 0 then (
  zz_bndR (f_X12_next m) fun m2 =>
  some (x1, m2))
  else (
  some (x1, m))
theorem t_X12_takes_37 {l : Launch} {G : zz_G} (hN : 26 ≤ zz_N G)  : ∀ (m : zz_Mem), zz_Sim zz_shM l G mX12_takes 6 zz_vI zz_m2 (f_X12_takes_37 m) 37 [(0, .ref (zz_a G 0))] [] m := by
  intro m
  unfold f_X12_takes_37
  refine zs_aload_n dX12_takes_37 rfl 0 rfl ?_
  refine zs_getI fl_X12_142 dX12_takes_38 (shm_0 hN) rfl ?_
  refine zs_letI (fun x1 => ?_)
  refine zs_istore_n [(3, .int x1), (0, .ref (zz_a G 0))] dX12_takes_41 rfl (Nat.le_of_ble_eq_true rfl) rfl ?_
  refine zs_aload_n dX12_takes_42 rfl 1 rfl ?_
  refine zs_getI fl_X12_147 dX12_takes_43 (shm_0 hN) rfl ?_
  refine zs_if_ne (tgt := 53) dX12_takes_46 (by decide) ?_ ?_
  · refine zs_iload_n dX12_takes_53 rfl 0 rfl ?_
    exact zs_iret dX12_takes_54 rfl rfl rfl
  · refine zs_aload_n dX12_takes_49 rfl 1 rfl ?_
    refine zs_cV_vW (rest := []) (k_X12_next hN  _) dX12_takes_50 lv_X12_156 ok_X12_next (zz_rcv_o (shm_0 hN) rfl) (Nat.le_of_ble_eq_true rfl) rfl rfl (Nat.le_of_ble_eq_true rfl) (fun m2 => ?_)
    refine zs_iload_n dX12_takes_53 rfl 0 rfl ?_
    exact zs_iret dX12_takes_54 rfl rfl rfl
def f_X12_takes  (p1 : Int32) (p2 : Int32) (m : zz_Mem) : Option (Int32 × zz_Mem) :=
  zz_bndR (f_X12_is m (29 : Int32)) fun r1 =>
  if r1 = 0 then (
  zz_bndR (f_X12_fails (2 : Int32) m) fun m4 =>
  f_X12_takes_37 m4)
  else (
  zz_bndR (f_X12_within ((m.1 0 10).toInt64) p1.toInt64 p2.toInt64) fun r2 =>
  if r2 = 0 then (
  zz_bndR (f_X12_fails (3 : Int32) m) fun m3 =>
  f_X12_takes_37 m3)
  else (
  f_X12_takes_37 m))
theorem k_X12_takes {l : Launch} {G : zz_G} (hN : 26 ≤ zz_N G) : ∀ (p1 : Int32) (p2 : Int32) (m : zz_Mem), zz_Con zz_shM l G mX12_takes 6 [.ref (zz_a G 0), .int p1, .int p2] zz_vI zz_m2 (f_X12_takes p1 p2 m) m := by
  intro p1 p2 m
  refine zz_con (lv := [(0, .ref (zz_a G 0)), (1, .int p1), (2, .int p2)]) (by decide +kernel) (Nat.le_of_ble_eq_true rfl) rfl ?_
  unfold f_X12_takes
  refine zs_aload_n dX12_takes_0 rfl 0 rfl ?_
  refine zs_bipush (v := (29 : Int32)) dX12_takes_1 cb_29 ?_
  refine zs_cV_iR (rest := []) (k_X12_is hN _ _) dX12_takes_3 lv_X12_153 ok_X12_is (zz_rcv_o (shm_0 hN) rfl) (Nat.le_of_ble_eq_true rfl) rfl rfl (Nat.le_of_ble_eq_true rfl) (fun r1 => ?_)
  refine zs_if_ne (tgt := 17) dX12_takes_6 (by decide) ?_ ?_
  · refine zs_aload_n dX12_takes_17 rfl 0 rfl ?_
    refine zs_getI fl_X12_142 dX12_takes_18 (shm_0 hN) rfl ?_
    refine zs_i2l dX12_takes_21 ?_
    refine zs_iload_n dX12_takes_22 rfl 1 rfl ?_
    refine zs_i2l dX12_takes_23 ?_
    refine zs_iload_n dX12_takes_24 rfl 2 rfl ?_
    refine zs_i2l dX12_takes_25 ?_
    refine zs_cS_iR (rest := []) (k_X12_within hN _ _ _ _) dX12_takes_26 ls_X12_163 ok_X12_within (Nat.le_of_ble_eq_true rfl) rfl rfl (Nat.le_of_ble_eq_true rfl) (fun r2 => ?_)
    refine zs_if_ne (tgt := 37) dX12_takes_29 (by decide) ?_ ?_
    · refine zs_sub [0] rfl ?_
      exact t_X12_takes_37 hN _
    · refine zs_aload_n dX12_takes_32 rfl 0 rfl ?_
      refine zs_iconst (v := (3 : Int32)) dX12_takes_33 ci_3 ?_
      refine zs_cV_vW (rest := []) (k_X12_fails hN _ _) dX12_takes_34 lv_X12_159 ok_X12_fails (zz_rcv_o (shm_0 hN) rfl) (Nat.le_of_ble_eq_true rfl) rfl rfl (Nat.le_of_ble_eq_true rfl) (fun m3 => ?_)
      refine zs_sub [0] rfl ?_
      exact t_X12_takes_37 hN _
  · refine zs_aload_n dX12_takes_9 rfl 0 rfl ?_
    refine zs_iconst (v := (2 : Int32)) dX12_takes_10 ci_2 ?_
    refine zs_cV_vW (rest := []) (k_X12_fails hN _ _) dX12_takes_11 lv_X12_159 ok_X12_fails (zz_rcv_o (shm_0 hN) rfl) (Nat.le_of_ble_eq_true rfl) rfl rfl (Nat.le_of_ble_eq_true rfl) (fun m4 => ?_)
    refine zs_goto (tgt := 37) dX12_takes_14 (by decide) ?_
    refine zs_sub [0] rfl ?_
    exact t_X12_takes_37 hN _
/-! X12_isIn: PillarDeskModel.isIn(JI)Z -/
theorem dX12_isIn_0 : decode cX12_isIn 0 = .ok (.lload_n 0, 1) := by decide +kernel
theorem dX12_isIn_1 : decode cX12_isIn 1 = .ok (.iload_n 2, 1) := by decide +kernel
theorem dX12_isIn_2 : decode cX12_isIn 2 = .ok (.lshr, 1) := by decide +kernel
theorem dX12_isIn_3 : decode cX12_isIn 3 = .ok (.lconst 1, 1) := by decide +kernel
theorem dX12_isIn_4 : decode cX12_isIn 4 = .ok (.land, 1) := by decide +kernel
theorem dX12_isIn_5 : decode cX12_isIn 5 = .ok (.lconst 1, 1) := by decide +kernel
theorem dX12_isIn_6 : decode cX12_isIn 6 = .ok (.lcmp, 1) := by decide +kernel
theorem dX12_isIn_7 : decode cX12_isIn 7 = .ok (.ifCond .ne 7, 3) := by decide +kernel
theorem dX12_isIn_10 : decode cX12_isIn 10 = .ok (.iconst 1, 1) := by decide +kernel
theorem dX12_isIn_11 : decode cX12_isIn 11 = .ok (.goto 4, 3) := by decide +kernel
theorem dX12_isIn_14 : decode cX12_isIn 14 = .ok (.iconst 0, 1) := by decide +kernel
theorem dX12_isIn_15 : decode cX12_isIn 15 = .ok (.ireturn, 1) := by decide +kernel
def f_X12_isIn  (p0 : Int64) (p2 : Int32) : Option Int32 :=
  if ((p0 >>> (p2.toInt64 &&& 63)) &&& (1 : Int64)) = (1 : Int64) then (
  some (1 : Int32))
  else (
  some (0 : Int32))
theorem k_X12_isIn {l : Launch} {G : zz_G} (hN : 26 ≤ zz_N G) : ∀ (p0 : Int64) (p2 : Int32) (m : zz_Mem), zz_Con zz_shM l G mX12_isIn 0 [.long p0, .int p2] zz_vIr (zz_mC m) (f_X12_isIn p0 p2) m := by
  intro p0 p2 m
  refine zz_con (lv := [(0, .long p0), (2, .int p2)]) (by decide +kernel) (Nat.le_of_ble_eq_true rfl) rfl ?_
  unfold f_X12_isIn
  refine zs_lload_n dX12_isIn_0 rfl 0 rfl ?_
  refine zs_iload_n dX12_isIn_1 rfl 1 rfl ?_
  refine zs_lshr dX12_isIn_2 ?_
  refine zs_lconst (v := (1 : Int64)) dX12_isIn_3 rfl ?_
  refine zs_land dX12_isIn_4 ?_
  refine zs_lconst (v := (1 : Int64)) dX12_isIn_5 rfl ?_
  refine zs_lcmp_ne (tgt := 14) dX12_isIn_6 dX12_isIn_7 (by decide) ?_ ?_
  · refine zs_iconst (v := (0 : Int32)) dX12_isIn_14 ci_0 ?_
    exact zs_zret dX12_isIn_15 rfl rfl rfl rfl
  · refine zs_iconst (v := (1 : Int32)) dX12_isIn_10 ci_1 ?_
    refine zs_goto (tgt := 15) dX12_isIn_11 (by decide) ?_
    exact zs_zret dX12_isIn_15 rfl rfl rfl rfl
/-! X12_wordOf: PillarDeskModel.wordOf(I)I -/
theorem dX12_wordOf_0 : decode cX12_wordOf 0 = .ok (.aload_n 0, 1) := by decide +kernel
theorem dX12_wordOf_1 : decode cX12_wordOf 1 = .ok (.getfield 167, 3) := by decide +kernel
theorem dX12_wordOf_4 : decode cX12_wordOf 4 = .ok (.ifCond .ne 7, 3) := by decide +kernel
theorem dX12_wordOf_7 : decode cX12_wordOf 7 = .ok (.iconst 1, 1) := by decide +kernel
theorem dX12_wordOf_8 : decode cX12_wordOf 8 = .ok (.goto 4, 3) := by decide +kernel
theorem dX12_wordOf_11 : decode cX12_wordOf 11 = .ok (.iconst 0, 1) := by decide +kernel
theorem dX12_wordOf_12 : decode cX12_wordOf 12 = .ok (.istore_n 2, 1) := by decide +kernel
theorem dX12_wordOf_13 : decode cX12_wordOf 13 = .ok (.iload_n 1, 1) := by decide +kernel
theorem dX12_wordOf_14 : decode cX12_wordOf 14 = .ok (.tableswitch 184 3 24 #[132, 162, 184, 184, 184, 184, 184, 184, 184, 184, 184, 184, 184, 184, 184, 184, 102, 112, 122, 142, 152, 173], 102) := by decide +kernel
theorem dX12_wordOf_116 : decode cX12_wordOf 116 = .ok (.iload_n 2, 1) := by decide +kernel
theorem dX12_wordOf_117 : decode cX12_wordOf 117 = .ok (.ifCond .eq 7, 3) := by decide +kernel
theorem dX12_wordOf_120 : decode cX12_wordOf 120 = .ok (.iconst 0, 1) := by decide +kernel
theorem dX12_wordOf_121 : decode cX12_wordOf 121 = .ok (.goto 4, 3) := by decide +kernel
theorem dX12_wordOf_124 : decode cX12_wordOf 124 = .ok (.iconst (-1), 1) := by decide +kernel
theorem dX12_wordOf_125 : decode cX12_wordOf 125 = .ok (.ireturn, 1) := by decide +kernel
theorem dX12_wordOf_126 : decode cX12_wordOf 126 = .ok (.iload_n 2, 1) := by decide +kernel
theorem dX12_wordOf_127 : decode cX12_wordOf 127 = .ok (.ifCond .eq 7, 3) := by decide +kernel
theorem dX12_wordOf_130 : decode cX12_wordOf 130 = .ok (.iconst 1, 1) := by decide +kernel
theorem dX12_wordOf_131 : decode cX12_wordOf 131 = .ok (.goto 4, 3) := by decide +kernel
theorem dX12_wordOf_134 : decode cX12_wordOf 134 = .ok (.iconst (-1), 1) := by decide +kernel
theorem dX12_wordOf_135 : decode cX12_wordOf 135 = .ok (.ireturn, 1) := by decide +kernel
theorem dX12_wordOf_136 : decode cX12_wordOf 136 = .ok (.iload_n 2, 1) := by decide +kernel
theorem dX12_wordOf_137 : decode cX12_wordOf 137 = .ok (.ifCond .eq 7, 3) := by decide +kernel
theorem dX12_wordOf_140 : decode cX12_wordOf 140 = .ok (.iconst 2, 1) := by decide +kernel
theorem dX12_wordOf_141 : decode cX12_wordOf 141 = .ok (.goto 4, 3) := by decide +kernel
theorem dX12_wordOf_144 : decode cX12_wordOf 144 = .ok (.iconst (-1), 1) := by decide +kernel
theorem dX12_wordOf_145 : decode cX12_wordOf 145 = .ok (.ireturn, 1) := by decide +kernel
theorem dX12_wordOf_146 : decode cX12_wordOf 146 = .ok (.iload_n 2, 1) := by decide +kernel
theorem dX12_wordOf_147 : decode cX12_wordOf 147 = .ok (.ifCond .eq 7, 3) := by decide +kernel
theorem dX12_wordOf_150 : decode cX12_wordOf 150 = .ok (.iconst 3, 1) := by decide +kernel
theorem dX12_wordOf_151 : decode cX12_wordOf 151 = .ok (.goto 4, 3) := by decide +kernel
theorem dX12_wordOf_154 : decode cX12_wordOf 154 = .ok (.iconst (-1), 1) := by decide +kernel
theorem dX12_wordOf_155 : decode cX12_wordOf 155 = .ok (.ireturn, 1) := by decide +kernel
theorem dX12_wordOf_156 : decode cX12_wordOf 156 = .ok (.iload_n 2, 1) := by decide +kernel
theorem dX12_wordOf_157 : decode cX12_wordOf 157 = .ok (.ifCond .eq 7, 3) := by decide +kernel
theorem dX12_wordOf_160 : decode cX12_wordOf 160 = .ok (.iconst 4, 1) := by decide +kernel
theorem dX12_wordOf_161 : decode cX12_wordOf 161 = .ok (.goto 4, 3) := by decide +kernel
theorem dX12_wordOf_164 : decode cX12_wordOf 164 = .ok (.iconst (-1), 1) := by decide +kernel
theorem dX12_wordOf_165 : decode cX12_wordOf 165 = .ok (.ireturn, 1) := by decide +kernel
theorem dX12_wordOf_166 : decode cX12_wordOf 166 = .ok (.iload_n 2, 1) := by decide +kernel
theorem dX12_wordOf_167 : decode cX12_wordOf 167 = .ok (.ifCond .eq 7, 3) := by decide +kernel
theorem dX12_wordOf_170 : decode cX12_wordOf 170 = .ok (.iconst (-1), 1) := by decide +kernel
theorem dX12_wordOf_171 : decode cX12_wordOf 171 = .ok (.goto 4, 3) := by decide +kernel
theorem dX12_wordOf_174 : decode cX12_wordOf 174 = .ok (.iconst 5, 1) := by decide +kernel
theorem dX12_wordOf_175 : decode cX12_wordOf 175 = .ok (.ireturn, 1) := by decide +kernel
theorem dX12_wordOf_176 : decode cX12_wordOf 176 = .ok (.iload_n 2, 1) := by decide +kernel
theorem dX12_wordOf_177 : decode cX12_wordOf 177 = .ok (.ifCond .eq 7, 3) := by decide +kernel
theorem dX12_wordOf_180 : decode cX12_wordOf 180 = .ok (.iconst (-1), 1) := by decide +kernel
theorem dX12_wordOf_181 : decode cX12_wordOf 181 = .ok (.goto 5, 3) := by decide +kernel
theorem dX12_wordOf_184 : decode cX12_wordOf 184 = .ok (.bipush 6, 2) := by decide +kernel
theorem dX12_wordOf_186 : decode cX12_wordOf 186 = .ok (.ireturn, 1) := by decide +kernel
theorem dX12_wordOf_187 : decode cX12_wordOf 187 = .ok (.iload_n 2, 1) := by decide +kernel
theorem dX12_wordOf_188 : decode cX12_wordOf 188 = .ok (.ifCond .eq 7, 3) := by decide +kernel
theorem dX12_wordOf_191 : decode cX12_wordOf 191 = .ok (.iconst (-1), 1) := by decide +kernel
theorem dX12_wordOf_192 : decode cX12_wordOf 192 = .ok (.goto 5, 3) := by decide +kernel
theorem dX12_wordOf_195 : decode cX12_wordOf 195 = .ok (.bipush 7, 2) := by decide +kernel
theorem dX12_wordOf_197 : decode cX12_wordOf 197 = .ok (.ireturn, 1) := by decide +kernel
theorem dX12_wordOf_198 : decode cX12_wordOf 198 = .ok (.iconst (-1), 1) := by decide +kernel
theorem dX12_wordOf_199 : decode cX12_wordOf 199 = .ok (.ireturn, 1) := by decide +kernel
def f_X12_wordOf_12 (m : zz_Mem)  (v1 : Int32) (s0 : Int32) : Option Int32 :=
  if v1 = (3 : Int32) then (
  if s0 = 0 then (
  some (-1 : Int32))
  else (
  some (3 : Int32)))
  else if v1 = (4 : Int32) then (
  if s0 = 0 then (
  some (6 : Int32))
  else (
  some (-1 : Int32)))
  else if v1 = (5 : Int32) then (
  some (-1 : Int32))
  else if v1 = (6 : Int32) then (
  some (-1 : Int32))
  else if v1 = (7 : Int32) then (
  some (-1 : Int32))
  else if v1 = (8 : Int32) then (
  some (-1 : Int32))
  else if v1 = (9 : Int32) then (
  some (-1 : Int32))
  else if v1 = (10 : Int32) then (
  some (-1 : Int32))
  else if v1 = (11 : Int32) then (
  some (-1 : Int32))
  else if v1 = (12 : Int32) then (
  some (-1 : Int32))
  else if v1 = (13 : Int32) then (
  some (-1 : Int32))
  else if v1 = (14 : Int32) then (
  some (-1 : Int32))
  else if v1 = (15 : Int32) then (
  some (-1 : Int32))
  else if v1 = (16 : Int32) then (
  some (-1 : Int32))
  else if v1 = (17 : Int32) then (
  some (-1 : Int32))
  else if v1 = (18 : Int32) then (
  some (-1 : Int32))
  else if v1 = (19 : Int32) then (
  if s0 = 0 then (
  some (-1 : Int32))
  else (
  some (0 : Int32)))
  else if v1 = (20 : Int32) then (
  if s0 = 0 then (
  some (-1 : Int32))
  else (
  some (1 : Int32)))
  else if v1 = (21 : Int32) then (
  if s0 = 0 then (
  some (-1 : Int32))
  else (
  some (2 : Int32)))
  else if v1 = (22 : Int32) then (
  if s0 = 0 then (
  some (-1 : Int32))
  else (
  some (4 : Int32)))
  else if v1 = (23 : Int32) then (
  if s0 = 0 then (
  some (5 : Int32))
  else (
  some (-1 : Int32)))
  else if v1 = (24 : Int32) then (
  if s0 = 0 then (
  some (7 : Int32))
  else (
  some (-1 : Int32)))
  else (
  some (-1 : Int32))
theorem t_X12_wordOf_12 {l : Launch} {G : zz_G} (hN : 26 ≤ zz_N G) {m : zz_Mem}  : ∀ (v1 : Int32) (s0 : Int32), zz_Sim zz_shM l G mX12_wordOf 0 zz_vIr (zz_mC m) (f_X12_wordOf_12 m v1 s0) 12 [(1, .int v1)] [.int s0] m := by
  intro v1 s0
  unfold f_X12_wordOf_12
  refine zs_istore_n [(2, .int s0), (1, .int v1)] dX12_wordOf_12 rfl (Nat.le_of_ble_eq_true rfl) rfl ?_
  refine zs_iload_n dX12_wordOf_13 rfl 1 rfl ?_
  refine zs_ite (fun h1 => ?_) (fun h1 => ?_)
  · refine zs_tswI (tgt := 146) h1 dX12_wordOf_14 (by decide) (by decide) rfl (by decide) ?_
    refine zs_iload_n dX12_wordOf_146 rfl 0 rfl ?_
    refine zs_if_eq (tgt := 154) dX12_wordOf_147 (by decide) ?_ ?_
    · refine zs_iconst (v := (-1 : Int32)) dX12_wordOf_154 ci_m1 ?_
      exact zs_iret dX12_wordOf_155 rfl rfl rfl
    · refine zs_iconst (v := (3 : Int32)) dX12_wordOf_150 ci_3 ?_
      refine zs_goto (tgt := 155) dX12_wordOf_151 (by decide) ?_
      exact zs_iret dX12_wordOf_155 rfl rfl rfl
  refine zs_ite (fun h2 => ?_) (fun h2 => ?_)
  · refine zs_tswI (tgt := 176) h2 dX12_wordOf_14 (by decide) (by decide) rfl (by decide) ?_
    refine zs_iload_n dX12_wordOf_176 rfl 0 rfl ?_
    refine zs_if_eq (tgt := 184) dX12_wordOf_177 (by decide) ?_ ?_
    · refine zs_bipush (v := (6 : Int32)) dX12_wordOf_184 cb_6 ?_
      exact zs_iret dX12_wordOf_186 rfl rfl rfl
    · refine zs_iconst (v := (-1 : Int32)) dX12_wordOf_180 ci_m1 ?_
      refine zs_goto (tgt := 186) dX12_wordOf_181 (by decide) ?_
      exact zs_iret dX12_wordOf_186 rfl rfl rfl
  refine zs_ite (fun h3 => ?_) (fun h3 => ?_)
  · refine zs_tswI (tgt := 198) h3 dX12_wordOf_14 (by decide) (by decide) rfl (by decide) ?_
    refine zs_iconst (v := (-1 : Int32)) dX12_wordOf_198 ci_m1 ?_
    exact zs_iret dX12_wordOf_199 rfl rfl rfl
  refine zs_ite (fun h4 => ?_) (fun h4 => ?_)
  · refine zs_tswI (tgt := 198) h4 dX12_wordOf_14 (by decide) (by decide) rfl (by decide) ?_
    refine zs_iconst (v := (-1 : Int32)) dX12_wordOf_198 ci_m1 ?_
    exact zs_iret dX12_wordOf_199 rfl rfl rfl
  refine zs_ite (fun h5 => ?_) (fun h5 => ?_)
  · refine zs_tswI (tgt := 198) h5 dX12_wordOf_14 (by decide) (by decide) rfl (by decide) ?_
    refine zs_iconst (v := (-1 : Int32)) dX12_wordOf_198 ci_m1 ?_
    exact zs_iret dX12_wordOf_199 rfl rfl rfl
  refine zs_ite (fun h6 => ?_) (fun h6 => ?_)
  · refine zs_tswI (tgt := 198) h6 dX12_wordOf_14 (by decide) (by decide) rfl (by decide) ?_
    refine zs_iconst (v := (-1 : Int32)) dX12_wordOf_198 ci_m1 ?_
    exact zs_iret dX12_wordOf_199 rfl rfl rfl
  refine zs_ite (fun h7 => ?_) (fun h7 => ?_)
  · refine zs_tswI (tgt := 198) h7 dX12_wordOf_14 (by decide) (by decide) rfl (by decide) ?_
    refine zs_iconst (v := (-1 : Int32)) dX12_wordOf_198 ci_m1 ?_
    exact zs_iret dX12_wordOf_199 rfl rfl rfl
  refine zs_ite (fun h8 => ?_) (fun h8 => ?_)
  · refine zs_tswI (tgt := 198) h8 dX12_wordOf_14 (by decide) (by decide) rfl (by decide) ?_
    refine zs_iconst (v := (-1 : Int32)) dX12_wordOf_198 ci_m1 ?_
    exact zs_iret dX12_wordOf_199 rfl rfl rfl
  refine zs_ite (fun h9 => ?_) (fun h9 => ?_)
  · refine zs_tswI (tgt := 198) h9 dX12_wordOf_14 (by decide) (by decide) rfl (by decide) ?_
    refine zs_iconst (v := (-1 : Int32)) dX12_wordOf_198 ci_m1 ?_
    exact zs_iret dX12_wordOf_199 rfl rfl rfl
  refine zs_ite (fun h10 => ?_) (fun h10 => ?_)
  · refine zs_tswI (tgt := 198) h10 dX12_wordOf_14 (by decide) (by decide) rfl (by decide) ?_
    refine zs_iconst (v := (-1 : Int32)) dX12_wordOf_198 ci_m1 ?_
    exact zs_iret dX12_wordOf_199 rfl rfl rfl
  refine zs_ite (fun h11 => ?_) (fun h11 => ?_)
  · refine zs_tswI (tgt := 198) h11 dX12_wordOf_14 (by decide) (by decide) rfl (by decide) ?_
    refine zs_iconst (v := (-1 : Int32)) dX12_wordOf_198 ci_m1 ?_
    exact zs_iret dX12_wordOf_199 rfl rfl rfl
  refine zs_ite (fun h12 => ?_) (fun h12 => ?_)
  · refine zs_tswI (tgt := 198) h12 dX12_wordOf_14 (by decide) (by decide) rfl (by decide) ?_
    refine zs_iconst (v := (-1 : Int32)) dX12_wordOf_198 ci_m1 ?_
    exact zs_iret dX12_wordOf_199 rfl rfl rfl
  refine zs_ite (fun h13 => ?_) (fun h13 => ?_)
  · refine zs_tswI (tgt := 198) h13 dX12_wordOf_14 (by decide) (by decide) rfl (by decide) ?_
    refine zs_iconst (v := (-1 : Int32)) dX12_wordOf_198 ci_m1 ?_
    exact zs_iret dX12_wordOf_199 rfl rfl rfl
  refine zs_ite (fun h14 => ?_) (fun h14 => ?_)
  · refine zs_tswI (tgt := 198) h14 dX12_wordOf_14 (by decide) (by decide) rfl (by decide) ?_
    refine zs_iconst (v := (-1 : Int32)) dX12_wordOf_198 ci_m1 ?_
    exact zs_iret dX12_wordOf_199 rfl rfl rfl
  refine zs_ite (fun h15 => ?_) (fun h15 => ?_)
  · refine zs_tswI (tgt := 198) h15 dX12_wordOf_14 (by decide) (by decide) rfl (by decide) ?_
    refine zs_iconst (v := (-1 : Int32)) dX12_wordOf_198 ci_m1 ?_
    exact zs_iret dX12_wordOf_199 rfl rfl rfl
  refine zs_ite (fun h16 => ?_) (fun h16 => ?_)
  · refine zs_tswI (tgt := 198) h16 dX12_wordOf_14 (by decide) (by decide) rfl (by decide) ?_
    refine zs_iconst (v := (-1 : Int32)) dX12_wordOf_198 ci_m1 ?_
    exact zs_iret dX12_wordOf_199 rfl rfl rfl
  refine zs_ite (fun h17 => ?_) (fun h17 => ?_)
  · refine zs_tswI (tgt := 116) h17 dX12_wordOf_14 (by decide) (by decide) rfl (by decide) ?_
    refine zs_iload_n dX12_wordOf_116 rfl 0 rfl ?_
    refine zs_if_eq (tgt := 124) dX12_wordOf_117 (by decide) ?_ ?_
    · refine zs_iconst (v := (-1 : Int32)) dX12_wordOf_124 ci_m1 ?_
      exact zs_iret dX12_wordOf_125 rfl rfl rfl
    · refine zs_iconst (v := (0 : Int32)) dX12_wordOf_120 ci_0 ?_
      refine zs_goto (tgt := 125) dX12_wordOf_121 (by decide) ?_
      exact zs_iret dX12_wordOf_125 rfl rfl rfl
  refine zs_ite (fun h18 => ?_) (fun h18 => ?_)
  · refine zs_tswI (tgt := 126) h18 dX12_wordOf_14 (by decide) (by decide) rfl (by decide) ?_
    refine zs_iload_n dX12_wordOf_126 rfl 0 rfl ?_
    refine zs_if_eq (tgt := 134) dX12_wordOf_127 (by decide) ?_ ?_
    · refine zs_iconst (v := (-1 : Int32)) dX12_wordOf_134 ci_m1 ?_
      exact zs_iret dX12_wordOf_135 rfl rfl rfl
    · refine zs_iconst (v := (1 : Int32)) dX12_wordOf_130 ci_1 ?_
      refine zs_goto (tgt := 135) dX12_wordOf_131 (by decide) ?_
      exact zs_iret dX12_wordOf_135 rfl rfl rfl
  refine zs_ite (fun h19 => ?_) (fun h19 => ?_)
  · refine zs_tswI (tgt := 136) h19 dX12_wordOf_14 (by decide) (by decide) rfl (by decide) ?_
    refine zs_iload_n dX12_wordOf_136 rfl 0 rfl ?_
    refine zs_if_eq (tgt := 144) dX12_wordOf_137 (by decide) ?_ ?_
    · refine zs_iconst (v := (-1 : Int32)) dX12_wordOf_144 ci_m1 ?_
      exact zs_iret dX12_wordOf_145 rfl rfl rfl
    · refine zs_iconst (v := (2 : Int32)) dX12_wordOf_140 ci_2 ?_
      refine zs_goto (tgt := 145) dX12_wordOf_141 (by decide) ?_
      exact zs_iret dX12_wordOf_145 rfl rfl rfl
  refine zs_ite (fun h20 => ?_) (fun h20 => ?_)
  · refine zs_tswI (tgt := 156) h20 dX12_wordOf_14 (by decide) (by decide) rfl (by decide) ?_
    refine zs_iload_n dX12_wordOf_156 rfl 0 rfl ?_
    refine zs_if_eq (tgt := 164) dX12_wordOf_157 (by decide) ?_ ?_
    · refine zs_iconst (v := (-1 : Int32)) dX12_wordOf_164 ci_m1 ?_
      exact zs_iret dX12_wordOf_165 rfl rfl rfl
    · refine zs_iconst (v := (4 : Int32)) dX12_wordOf_160 ci_4 ?_
      refine zs_goto (tgt := 165) dX12_wordOf_161 (by decide) ?_
      exact zs_iret dX12_wordOf_165 rfl rfl rfl
  refine zs_ite (fun h21 => ?_) (fun h21 => ?_)
  · refine zs_tswI (tgt := 166) h21 dX12_wordOf_14 (by decide) (by decide) rfl (by decide) ?_
    refine zs_iload_n dX12_wordOf_166 rfl 0 rfl ?_
    refine zs_if_eq (tgt := 174) dX12_wordOf_167 (by decide) ?_ ?_
    · refine zs_iconst (v := (5 : Int32)) dX12_wordOf_174 ci_5 ?_
      exact zs_iret dX12_wordOf_175 rfl rfl rfl
    · refine zs_iconst (v := (-1 : Int32)) dX12_wordOf_170 ci_m1 ?_
      refine zs_goto (tgt := 175) dX12_wordOf_171 (by decide) ?_
      exact zs_iret dX12_wordOf_175 rfl rfl rfl
  refine zs_ite (fun h22 => ?_) (fun h22 => ?_)
  · refine zs_tswI (tgt := 187) h22 dX12_wordOf_14 (by decide) (by decide) rfl (by decide) ?_
    refine zs_iload_n dX12_wordOf_187 rfl 0 rfl ?_
    refine zs_if_eq (tgt := 195) dX12_wordOf_188 (by decide) ?_ ?_
    · refine zs_bipush (v := (7 : Int32)) dX12_wordOf_195 cb_7 ?_
      exact zs_iret dX12_wordOf_197 rfl rfl rfl
    · refine zs_iconst (v := (-1 : Int32)) dX12_wordOf_191 ci_m1 ?_
      refine zs_goto (tgt := 197) dX12_wordOf_192 (by decide) ?_
      exact zs_iret dX12_wordOf_197 rfl rfl rfl
  refine zs_tswO (tgt := 198) dX12_wordOf_14 (by have eh1 := lv_neT h1 (a := 3) rfl; have eh2 := lv_neT h2 (a := 4) rfl; have eh3 := lv_neT h3 (a := 5) rfl; have eh4 := lv_neT h4 (a := 6) rfl; have eh5 := lv_neT h5 (a := 7) rfl; have eh6 := lv_neT h6 (a := 8) rfl; have eh7 := lv_neT h7 (a := 9) rfl; have eh8 := lv_neT h8 (a := 10) rfl; have eh9 := lv_neT h9 (a := 11) rfl; have eh10 := lv_neT h10 (a := 12) rfl; have eh11 := lv_neT h11 (a := 13) rfl; have eh12 := lv_neT h12 (a := 14) rfl; have eh13 := lv_neT h13 (a := 15) rfl; have eh14 := lv_neT h14 (a := 16) rfl; have eh15 := lv_neT h15 (a := 17) rfl; have eh16 := lv_neT h16 (a := 18) rfl; have eh17 := lv_neT h17 (a := 19) rfl; have eh18 := lv_neT h18 (a := 20) rfl; have eh19 := lv_neT h19 (a := 21) rfl; have eh20 := lv_neT h20 (a := 22) rfl; have eh21 := lv_neT h21 (a := 23) rfl; have eh22 := lv_neT h22 (a := 24) rfl; omega) (by decide) ?_
  refine zs_iconst (v := (-1 : Int32)) dX12_wordOf_198 ci_m1 ?_
  exact zs_iret dX12_wordOf_199 rfl rfl rfl
def f_X12_wordOf (m : zz_Mem) (p1 : Int32) : Option Int32 :=
  if (m.1 0 15) = 0 then (
  f_X12_wordOf_12 m p1 (1 : Int32))
  else (
  f_X12_wordOf_12 m p1 (0 : Int32))
theorem k_X12_wordOf {l : Launch} {G : zz_G} (hN : 26 ≤ zz_N G) : ∀ (p1 : Int32) (m : zz_Mem), zz_Con zz_shM l G mX12_wordOf 0 [.ref (zz_a G 0), .int p1] zz_vIr (zz_mC m) (f_X12_wordOf m p1) m := by
  intro p1 m
  refine zz_con (lv := [(0, .ref (zz_a G 0)), (1, .int p1)]) (by decide +kernel) (Nat.le_of_ble_eq_true rfl) rfl ?_
  unfold f_X12_wordOf
  refine zs_aload_n dX12_wordOf_0 rfl 0 rfl ?_
  refine zs_getI fl_X12_167 dX12_wordOf_1 (shm_0 hN) rfl ?_
  refine zs_if_ne (tgt := 11) dX12_wordOf_4 (by decide) ?_ ?_
  · refine zs_iconst (v := (0 : Int32)) dX12_wordOf_11 ci_0 ?_
    refine zs_sub [1] rfl ?_
    exact t_X12_wordOf_12 hN _ _
  · refine zs_iconst (v := (1 : Int32)) dX12_wordOf_7 ci_1 ?_
    refine zs_goto (tgt := 12) dX12_wordOf_8 (by decide) ?_
    refine zs_sub [1] rfl ?_
    exact t_X12_wordOf_12 hN _ _
/-! X12_codes: PillarDeskModel.codes(I)V -/
theorem dX12_codes_0 : decode cX12_codes 0 = .ok (.aload_n 0, 1) := by decide +kernel
theorem dX12_codes_1 : decode cX12_codes 1 = .ok (.getfield 147, 3) := by decide +kernel
theorem dX12_codes_4 : decode cX12_codes 4 = .ok (.ifCond .eq 4, 3) := by decide +kernel
theorem dX12_codes_7 : decode cX12_codes 7 = .ok (.return_, 1) := by decide +kernel
theorem dX12_codes_8 : decode cX12_codes 8 = .ok (.aload_n 0, 1) := by decide +kernel
theorem dX12_codes_9 : decode cX12_codes 9 = .ok (.getfield 24, 3) := by decide +kernel
theorem dX12_codes_12 : decode cX12_codes 12 = .ok (.sipush 277, 3) := by decide +kernel
theorem dX12_codes_15 : decode cX12_codes 15 = .ok (.aload_n 0, 1) := by decide +kernel
theorem dX12_codes_16 : decode cX12_codes 16 = .ok (.getfield 24, 3) := by decide +kernel
theorem dX12_codes_19 : decode cX12_codes 19 = .ok (.sipush 276, 3) := by decide +kernel
theorem dX12_codes_22 : decode cX12_codes 22 = .ok (.iaload, 1) := by decide +kernel
theorem dX12_codes_23 : decode cX12_codes 23 = .ok (.iadd, 1) := by decide +kernel
theorem dX12_codes_24 : decode cX12_codes 24 = .ok (.iload_n 1, 1) := by decide +kernel
theorem dX12_codes_25 : decode cX12_codes 25 = .ok (.iastore, 1) := by decide +kernel
theorem dX12_codes_26 : decode cX12_codes 26 = .ok (.aload_n 0, 1) := by decide +kernel
theorem dX12_codes_27 : decode cX12_codes 27 = .ok (.getfield 24, 3) := by decide +kernel
theorem dX12_codes_30 : decode cX12_codes 30 = .ok (.sipush 276, 3) := by decide +kernel
theorem dX12_codes_33 : decode cX12_codes 33 = .ok (.dup2, 1) := by decide +kernel
theorem dX12_codes_34 : decode cX12_codes 34 = .ok (.iaload, 1) := by decide +kernel
theorem dX12_codes_35 : decode cX12_codes 35 = .ok (.iconst 1, 1) := by decide +kernel
theorem dX12_codes_36 : decode cX12_codes 36 = .ok (.iadd, 1) := by decide +kernel
theorem dX12_codes_37 : decode cX12_codes 37 = .ok (.iastore, 1) := by decide +kernel
theorem dX12_codes_38 : decode cX12_codes 38 = .ok (.return_, 1) := by decide +kernel
def f_X12_codes  (p1 : Int32) (m : zz_Mem) : Option zz_Mem :=
  if (m.1 0 11) = 0 then (
  zz_ix ((277 : Int32) + (m.1 4 276)) 1177 <| zz_letM (zz_setI m 4 ((277 : Int32) + (m.1 4 276)).toNatClampNeg p1) fun m1 =>
  zz_letM (zz_setI m1 4 276 ((m1.1 4 276) + (1 : Int32))) fun m2 =>
  some m2)
  else (
  some m)
theorem k_X12_codes {l : Launch} {G : zz_G} (hN : 26 ≤ zz_N G) : ∀ (p1 : Int32) (m : zz_Mem), zz_Con zz_shM l G mX12_codes 0 [.ref (zz_a G 0), .int p1] zz_vV zz_mV (f_X12_codes p1 m) m := by
  intro p1 m
  refine zz_con (lv := [(0, .ref (zz_a G 0)), (1, .int p1)]) (by decide +kernel) (Nat.le_of_ble_eq_true rfl) rfl ?_
  unfold f_X12_codes
  refine zs_aload_n dX12_codes_0 rfl 0 rfl ?_
  refine zs_getI fl_X12_147 dX12_codes_1 (shm_0 hN) rfl ?_
  refine zs_if_eq (tgt := 8) dX12_codes_4 (by decide) ?_ ?_
  · refine zs_aload_n dX12_codes_8 rfl 0 rfl ?_
    refine zs_getR fl_X12_24 dX12_codes_9 (shm_0 hN) rfl ?_
    refine zs_sipush (v := (277 : Int32)) dX12_codes_12 cs_277 ?_
    refine zs_aload_n dX12_codes_15 rfl 0 rfl ?_
    refine zs_getR fl_X12_24 dX12_codes_16 (shm_0 hN) rfl ?_
    refine zs_sipush (v := (276 : Int32)) dX12_codes_19 cs_276 ?_
    refine zs_ialdC dX12_codes_22 (shm_4 hN) vin_276_1177 clp_276 ?_
    refine zs_iadd dX12_codes_23 ?_
    refine zs_iload_n dX12_codes_24 rfl 1 rfl ?_
    refine zs_iastG dX12_codes_25 (shm_4 hN) (fun m1 => ?_)
    refine zs_aload_n dX12_codes_26 rfl 0 rfl ?_
    refine zs_getR fl_X12_24 dX12_codes_27 (shm_0 hN) rfl ?_
    refine zs_sipush (v := (276 : Int32)) dX12_codes_30 cs_276 ?_
    refine zs_dup2_11 dX12_codes_33 rfl rfl ?_
    refine zs_ialdC dX12_codes_34 (shm_4 hN) vin_276_1177 clp_276 ?_
    refine zs_iconst (v := (1 : Int32)) dX12_codes_35 ci_1 ?_
    refine zs_iadd dX12_codes_36 ?_
    refine zs_iastC dX12_codes_37 (shm_4 hN) vin_276_1177 clp_276 (fun m2 => ?_)
    exact zs_vret dX12_codes_38 rfl rfl rfl
  · exact zs_vret dX12_codes_7 rfl rfl rfl
/-! X12_goesIn: PillarDeskModel.goesIn(I)Z -/
theorem dX12_goesIn_0 : decode cX12_goesIn 0 = .ok (.iload_n 1, 1) := by decide +kernel
theorem dX12_goesIn_1 : decode cX12_goesIn 1 = .ok (.bipush 6, 2) := by decide +kernel
theorem dX12_goesIn_3 : decode cX12_goesIn 3 = .ok (.if_icmp .ne 8, 3) := by decide +kernel
theorem dX12_goesIn_6 : decode cX12_goesIn 6 = .ok (.aload_n 0, 1) := by decide +kernel
theorem dX12_goesIn_7 : decode cX12_goesIn 7 = .ok (.iconst 4, 1) := by decide +kernel
theorem dX12_goesIn_8 : decode cX12_goesIn 8 = .ok (.invokevirtual 159, 3) := by decide +kernel
theorem dX12_goesIn_11 : decode cX12_goesIn 11 = .ok (.aload_n 0, 1) := by decide +kernel
theorem dX12_goesIn_12 : decode cX12_goesIn 12 = .ok (.getfield 147, 3) := by decide +kernel
theorem dX12_goesIn_15 : decode cX12_goesIn 15 = .ok (.ifCond .ne 7, 3) := by decide +kernel
theorem dX12_goesIn_18 : decode cX12_goesIn 18 = .ok (.aload_n 0, 1) := by decide +kernel
theorem dX12_goesIn_19 : decode cX12_goesIn 19 = .ok (.invokevirtual 156, 3) := by decide +kernel
theorem dX12_goesIn_22 : decode cX12_goesIn 22 = .ok (.aload_n 0, 1) := by decide +kernel
theorem dX12_goesIn_23 : decode cX12_goesIn 23 = .ok (.getfield 147, 3) := by decide +kernel
theorem dX12_goesIn_26 : decode cX12_goesIn 26 = .ok (.ifCond .ne 7, 3) := by decide +kernel
theorem dX12_goesIn_29 : decode cX12_goesIn 29 = .ok (.iconst 1, 1) := by decide +kernel
theorem dX12_goesIn_30 : decode cX12_goesIn 30 = .ok (.goto 4, 3) := by decide +kernel
theorem dX12_goesIn_33 : decode cX12_goesIn 33 = .ok (.iconst 0, 1) := by decide +kernel
theorem dX12_goesIn_34 : decode cX12_goesIn 34 = .ok (.ireturn, 1) := by decide +kernel
def f_X12_goesIn_22   (m : zz_Mem) : Option (Int32 × zz_Mem) :=
  if (m.1 0 11) = 0 then (
  some ((1 : Int32), m))
  else (
  some ((0 : Int32), m))
theorem t_X12_goesIn_22 {l : Launch} {G : zz_G} (hN : 26 ≤ zz_N G)  : ∀ (m : zz_Mem), zz_Sim zz_shM l G mX12_goesIn 6 zz_vI zz_m2 (f_X12_goesIn_22 m) 22 [(0, .ref (zz_a G 0))] [] m := by
  intro m
  unfold f_X12_goesIn_22
  refine zs_aload_n dX12_goesIn_22 rfl 0 rfl ?_
  refine zs_getI fl_X12_147 dX12_goesIn_23 (shm_0 hN) rfl ?_
  refine zs_if_ne (tgt := 33) dX12_goesIn_26 (by decide) ?_ ?_
  · refine zs_iconst (v := (0 : Int32)) dX12_goesIn_33 ci_0 ?_
    exact zs_zret dX12_goesIn_34 rfl rfl rfl rfl
  · refine zs_iconst (v := (1 : Int32)) dX12_goesIn_29 ci_1 ?_
    refine zs_goto (tgt := 34) dX12_goesIn_30 (by decide) ?_
    exact zs_zret dX12_goesIn_34 rfl rfl rfl rfl
def f_X12_goesIn_11   (m : zz_Mem) : Option (Int32 × zz_Mem) :=
  if (m.1 0 11) = 0 then (
  zz_bndR (f_X12_next m) fun m1 =>
  f_X12_goesIn_22 m1)
  else (
  f_X12_goesIn_22 m)
theorem t_X12_goesIn_11 {l : Launch} {G : zz_G} (hN : 26 ≤ zz_N G)  : ∀ (m : zz_Mem), zz_Sim zz_shM l G mX12_goesIn 6 zz_vI zz_m2 (f_X12_goesIn_11 m) 11 [(0, .ref (zz_a G 0))] [] m := by
  intro m
  unfold f_X12_goesIn_11
  refine zs_aload_n dX12_goesIn_11 rfl 0 rfl ?_
  refine zs_getI fl_X12_147 dX12_goesIn_12 (shm_0 hN) rfl ?_
  refine zs_if_ne (tgt := 22) dX12_goesIn_15 (by decide) ?_ ?_
  · exact t_X12_goesIn_22 hN _
  · refine zs_aload_n dX12_goesIn_18 rfl 0 rfl ?_
    refine zs_cV_vW (rest := []) (k_X12_next hN  _) dX12_goesIn_19 lv_X12_156 ok_X12_next (zz_rcv_o (shm_0 hN) rfl) (Nat.le_of_ble_eq_true rfl) rfl rfl (Nat.le_of_ble_eq_true rfl) (fun m1 => ?_)
    exact t_X12_goesIn_22 hN _
def f_X12_goesIn  (p1 : Int32) (m : zz_Mem) : Option (Int32 × zz_Mem) :=
  if p1 = (6 : Int32) then (
  zz_bndR (f_X12_fails (4 : Int32) m) fun m1 =>
  f_X12_goesIn_11 m1)
  else (
  f_X12_goesIn_11 m)
theorem k_X12_goesIn {l : Launch} {G : zz_G} (hN : 26 ≤ zz_N G) : ∀ (p1 : Int32) (m : zz_Mem), zz_Con zz_shM l G mX12_goesIn 6 [.ref (zz_a G 0), .int p1] zz_vI zz_m2 (f_X12_goesIn p1 m) m := by
  intro p1 m
  refine zz_con (lv := [(0, .ref (zz_a G 0)), (1, .int p1)]) (by decide +kernel) (Nat.le_of_ble_eq_true rfl) rfl ?_
  unfold f_X12_goesIn
  refine zs_iload_n dX12_goesIn_0 rfl 1 rfl ?_
  refine zs_bipush (v := (6 : Int32)) dX12_goesIn_1 cb_6 ?_
  refine zs_icmp_ne (tgt := 11) dX12_goesIn_3 (by decide) ?_ ?_
  · refine zs_sub [0] rfl ?_
    exact t_X12_goesIn_11 hN _
  · refine zs_aload_n dX12_goesIn_6 rfl 0 rfl ?_
    refine zs_iconst (v := (4 : Int32)) dX12_goesIn_7 ci_4 ?_
    refine zs_cV_vW (rest := []) (k_X12_fails hN _ _) dX12_goesIn_8 lv_X12_159 ok_X12_fails (zz_rcv_o (shm_0 hN) rfl) (Nat.le_of_ble_eq_true rfl) rfl rfl (Nat.le_of_ble_eq_true rfl) (fun m1 => ?_)
    refine zs_sub [0] rfl ?_
    exact t_X12_goesIn_11 hN _
/-! X12_readSum: PillarDeskModel.readSum(I)V -/
theorem dX12_readSum_0 : decode cX12_readSum 0 = .ok (.aload_n 0, 1) := by decide +kernel
theorem dX12_readSum_1 : decode cX12_readSum 1 = .ok (.iload_n 1, 1) := by decide +kernel
theorem dX12_readSum_2 : decode cX12_readSum 2 = .ok (.invokevirtual 194, 3) := by decide +kernel
theorem dX12_readSum_5 : decode cX12_readSum 5 = .ok (.aload_n 0, 1) := by decide +kernel
theorem dX12_readSum_6 : decode cX12_readSum 6 = .ok (.bipush 34, 2) := by decide +kernel
theorem dX12_readSum_8 : decode cX12_readSum 8 = .ok (.invokevirtual 153, 3) := by decide +kernel
theorem dX12_readSum_11 : decode cX12_readSum 11 = .ok (.ifCond .ne 12, 3) := by decide +kernel
theorem dX12_readSum_14 : decode cX12_readSum 14 = .ok (.aload_n 0, 1) := by decide +kernel
theorem dX12_readSum_15 : decode cX12_readSum 15 = .ok (.bipush 35, 2) := by decide +kernel
theorem dX12_readSum_17 : decode cX12_readSum 17 = .ok (.invokevirtual 153, 3) := by decide +kernel
theorem dX12_readSum_20 : decode cX12_readSum 20 = .ok (.ifCond .eq 39, 3) := by decide +kernel
theorem dX12_readSum_23 : decode cX12_readSum 23 = .ok (.aload_n 0, 1) := by decide +kernel
theorem dX12_readSum_24 : decode cX12_readSum 24 = .ok (.getfield 129, 3) := by decide +kernel
theorem dX12_readSum_27 : decode cX12_readSum 27 = .ok (.bipush 34, 2) := by decide +kernel
theorem dX12_readSum_29 : decode cX12_readSum 29 = .ok (.if_icmp .ne 9, 3) := by decide +kernel
theorem dX12_readSum_32 : decode cX12_readSum 32 = .ok (.sipush 3000, 3) := by decide +kernel
theorem dX12_readSum_35 : decode cX12_readSum 35 = .ok (.goto 6, 3) := by decide +kernel
theorem dX12_readSum_38 : decode cX12_readSum 38 = .ok (.sipush 3001, 3) := by decide +kernel
theorem dX12_readSum_41 : decode cX12_readSum 41 = .ok (.istore_n 2, 1) := by decide +kernel
theorem dX12_readSum_42 : decode cX12_readSum 42 = .ok (.aload_n 0, 1) := by decide +kernel
theorem dX12_readSum_43 : decode cX12_readSum 43 = .ok (.invokevirtual 156, 3) := by decide +kernel
theorem dX12_readSum_46 : decode cX12_readSum 46 = .ok (.aload_n 0, 1) := by decide +kernel
theorem dX12_readSum_47 : decode cX12_readSum 47 = .ok (.iload_n 1, 1) := by decide +kernel
theorem dX12_readSum_48 : decode cX12_readSum 48 = .ok (.invokevirtual 194, 3) := by decide +kernel
theorem dX12_readSum_51 : decode cX12_readSum 51 = .ok (.aload_n 0, 1) := by decide +kernel
theorem dX12_readSum_52 : decode cX12_readSum 52 = .ok (.iload_n 2, 1) := by decide +kernel
theorem dX12_readSum_53 : decode cX12_readSum 53 = .ok (.invokevirtual 170, 3) := by decide +kernel
theorem dX12_readSum_56 : decode cX12_readSum 56 = .ok (.goto (-51), 3) := by decide +kernel
theorem dX12_readSum_59 : decode cX12_readSum 59 = .ok (.return_, 1) := by decide +kernel
def f_X12_readSum_41 (g : Nat → Int32 → zz_Mem → Option zz_Mem) (k5 : Int32 → zz_Mem → Option zz_Mem) (v1 : Int32) (s0 : Int32) (m : zz_Mem) : Option zz_Mem :=
  zz_bndR (f_X12_next m) fun m1 =>
  zz_bndR (g 1 v1 m1) fun m2 =>
  zz_bndR (f_X12_codes s0 m2) fun m3 =>
  k5 v1 m3
theorem t_X12_readSum_41 {l : Launch} {G : zz_G} (hN : 26 ≤ zz_N G) {g : Nat → Int32 → zz_Mem → Option zz_Mem} {d : Nat} (hd0 : 7 ≤ d) (hg1 : ∀ (q1 : Int32) (m : zz_Mem), zz_Con zz_shM l G mX12_readTerm d [.ref (zz_a G 0), .int q1] zz_vV zz_mV (g 1 q1 m) m) {k5 : Int32 → zz_Mem → Option zz_Mem} (hk5 : ∀ (v1 : Int32) (m : zz_Mem), zz_Sim zz_shM l G mX12_readSum (d + 1) zz_vV zz_mV (k5 v1 m) 5 [(0, .ref (zz_a G 0)), (1, .int v1)] [] m) : ∀ (v1 : Int32) (s0 : Int32) (m : zz_Mem), zz_Sim zz_shM l G mX12_readSum (d + 1) zz_vV zz_mV (f_X12_readSum_41 g k5 v1 s0 m) 41 [(0, .ref (zz_a G 0)), (1, .int v1)] [.int s0] m := by
  intro v1 s0 m
  unfold f_X12_readSum_41
  refine zs_istore_n [(2, .int s0), (0, .ref (zz_a G 0)), (1, .int v1)] dX12_readSum_41 rfl (Nat.le_of_ble_eq_true rfl) rfl ?_
  refine zs_aload_n dX12_readSum_42 rfl 1 rfl ?_
  refine zs_cV_vW (rest := []) (k_X12_next hN  _) dX12_readSum_43 lv_X12_156 ok_X12_next (zz_rcv_o (shm_0 hN) rfl) (by omega) rfl rfl (Nat.le_of_ble_eq_true rfl) (fun m1 => ?_)
  refine zs_aload_n dX12_readSum_46 rfl 1 rfl ?_
  refine zs_iload_n dX12_readSum_47 rfl 2 rfl ?_
  refine zs_cV_vW (rest := []) (hg1 _ _) dX12_readSum_48 lv_X12_194 ok_X12_readTerm (zz_rcv_o (shm_0 hN) rfl) (Nat.le_refl _) rfl rfl (Nat.le_of_ble_eq_true rfl) (fun m2 => ?_)
  refine zs_aload_n dX12_readSum_51 rfl 1 rfl ?_
  refine zs_iload_n dX12_readSum_52 rfl 0 rfl ?_
  refine zs_cV_vW (rest := []) (k_X12_codes hN _ _) dX12_readSum_53 lv_X12_170 ok_X12_codes (zz_rcv_o (shm_0 hN) rfl) (by omega) rfl rfl (Nat.le_of_ble_eq_true rfl) (fun m3 => ?_)
  refine zs_goto (tgt := 5) dX12_readSum_56 (by decide) ?_
  refine zs_sub [1, 2] rfl ?_
  exact hk5 _ _
def f_X12_readSum_23 (g : Nat → Int32 → zz_Mem → Option zz_Mem) (k5 : Int32 → zz_Mem → Option zz_Mem) (v1 : Int32) (m : zz_Mem) : Option zz_Mem :=
  if (m.1 0 9) = (34 : Int32) then (
  f_X12_readSum_41 g k5 v1 (3000 : Int32) m)
  else (
  f_X12_readSum_41 g k5 v1 (3001 : Int32) m)
theorem t_X12_readSum_23 {l : Launch} {G : zz_G} (hN : 26 ≤ zz_N G) {g : Nat → Int32 → zz_Mem → Option zz_Mem} {d : Nat} (hd0 : 7 ≤ d) (hg1 : ∀ (q1 : Int32) (m : zz_Mem), zz_Con zz_shM l G mX12_readTerm d [.ref (zz_a G 0), .int q1] zz_vV zz_mV (g 1 q1 m) m) {k5 : Int32 → zz_Mem → Option zz_Mem} (hk5 : ∀ (v1 : Int32) (m : zz_Mem), zz_Sim zz_shM l G mX12_readSum (d + 1) zz_vV zz_mV (k5 v1 m) 5 [(0, .ref (zz_a G 0)), (1, .int v1)] [] m) : ∀ (v1 : Int32) (m : zz_Mem), zz_Sim zz_shM l G mX12_readSum (d + 1) zz_vV zz_mV (f_X12_readSum_23 g k5 v1 m) 23 [(0, .ref (zz_a G 0)), (1, .int v1)] [] m := by
  intro v1 m
  unfold f_X12_readSum_23
  refine zs_aload_n dX12_readSum_23 rfl 0 rfl ?_
  refine zs_getI fl_X12_129 dX12_readSum_24 (shm_0 hN) rfl ?_
  refine zs_bipush (v := (34 : Int32)) dX12_readSum_27 cb_34 ?_
  refine zs_icmp_ne (tgt := 38) dX12_readSum_29 (by decide) ?_ ?_
  · refine zs_sipush (v := (3001 : Int32)) dX12_readSum_38 cs_3001 ?_
    exact t_X12_readSum_41 hN hd0 hg1 hk5 _ _ _
  · refine zs_sipush (v := (3000 : Int32)) dX12_readSum_32 cs_3000 ?_
    refine zs_goto (tgt := 41) dX12_readSum_35 (by decide) ?_
    exact t_X12_readSum_41 hN hd0 hg1 hk5 _ _ _
def f_X12_readSum_5 (g : Nat → Int32 → zz_Mem → Option zz_Mem)  : Nat → Int32 → zz_Mem → Option zz_Mem
  | 0, _, _ => none
  | n + 1, v1, m =>
  zz_bndR (f_X12_is m (34 : Int32)) fun r1 =>
  if r1 = 0 then (
  zz_bndR (f_X12_is m (35 : Int32)) fun r2 =>
  if r2 = 0 then (
  some m)
  else (
  f_X12_readSum_23 g (f_X12_readSum_5 g n) v1 m))
  else (
  f_X12_readSum_23 g (f_X12_readSum_5 g n) v1 m)
theorem t_X12_readSum_5 {l : Launch} {G : zz_G} (hN : 26 ≤ zz_N G) {g : Nat → Int32 → zz_Mem → Option zz_Mem} {d : Nat} (hd0 : 7 ≤ d) (hg1 : ∀ (q1 : Int32) (m : zz_Mem), zz_Con zz_shM l G mX12_readTerm d [.ref (zz_a G 0), .int q1] zz_vV zz_mV (g 1 q1 m) m)  : ∀ (n : Nat) (v1 : Int32) (m : zz_Mem), zz_Sim zz_shM l G mX12_readSum (d + 1) zz_vV zz_mV (f_X12_readSum_5 g n v1 m) 5 [(0, .ref (zz_a G 0)), (1, .int v1)] [] m := by
  intro n
  induction n with
  | zero => intro _ _; exact zs_none
  | succ n ih =>
    intro v1 m
    rw [f_X12_readSum_5]
    refine zs_aload_n dX12_readSum_5 rfl 0 rfl ?_
    refine zs_bipush (v := (34 : Int32)) dX12_readSum_6 cb_34 ?_
    refine zs_cV_iR (rest := []) (k_X12_is hN _ _) dX12_readSum_8 lv_X12_153 ok_X12_is (zz_rcv_o (shm_0 hN) rfl) (by omega) rfl rfl (Nat.le_of_ble_eq_true rfl) (fun r1 => ?_)
    refine zs_if_ne (tgt := 23) dX12_readSum_11 (by decide) ?_ ?_
    · exact t_X12_readSum_23 hN hd0 hg1 ih _ _
    · refine zs_aload_n dX12_readSum_14 rfl 0 rfl ?_
      refine zs_bipush (v := (35 : Int32)) dX12_readSum_15 cb_35 ?_
      refine zs_cV_iR (rest := []) (k_X12_is hN _ _) dX12_readSum_17 lv_X12_153 ok_X12_is (zz_rcv_o (shm_0 hN) rfl) (by omega) rfl rfl (Nat.le_of_ble_eq_true rfl) (fun r2 => ?_)
      refine zs_if_eq (tgt := 59) dX12_readSum_20 (by decide) ?_ ?_
      · exact zs_vret dX12_readSum_59 rfl rfl rfl
      · exact t_X12_readSum_23 hN hd0 hg1 ih _ _
def f_X12_readSum (g : Nat → Int32 → zz_Mem → Option zz_Mem) (p1 : Int32) (m : zz_Mem) : Option zz_Mem :=
  zz_bndR (g 1 p1 m) fun m1 =>
  f_X12_readSum_5 g zz_fuel p1 m1
theorem k_X12_readSum {l : Launch} {G : zz_G} (hN : 26 ≤ zz_N G) {g : Nat → Int32 → zz_Mem → Option zz_Mem} {d : Nat} (hd0 : 7 ≤ d) (hg1 : ∀ (q1 : Int32) (m : zz_Mem), zz_Con zz_shM l G mX12_readTerm d [.ref (zz_a G 0), .int q1] zz_vV zz_mV (g 1 q1 m) m) : ∀ (p1 : Int32) (m : zz_Mem), zz_Con zz_shM l G mX12_readSum (d + 1) [.ref (zz_a G 0), .int p1] zz_vV zz_mV (f_X12_readSum g p1 m) m := by
  intro p1 m
  refine zz_con (lv := [(0, .ref (zz_a G 0)), (1, .int p1)]) (by decide +kernel) (Nat.le_of_ble_eq_true rfl) rfl ?_
  unfold f_X12_readSum
  refine zs_aload_n dX12_readSum_0 rfl 0 rfl ?_
  refine zs_iload_n dX12_readSum_1 rfl 1 rfl ?_
  refine zs_cV_vW (rest := []) (hg1 _ _) dX12_readSum_2 lv_X12_194 ok_X12_readTerm (zz_rcv_o (shm_0 hN) rfl) (Nat.le_refl _) rfl rfl (Nat.le_of_ble_eq_true rfl) (fun m1 => ?_)
  exact t_X12_readSum_5 hN hd0 hg1 zz_fuel _ _
/-! X12_readTerm: PillarDeskModel.readTerm(I)V -/
theorem dX12_readTerm_0 : decode cX12_readTerm 0 = .ok (.aload_n 0, 1) := by decide +kernel
theorem dX12_readTerm_1 : decode cX12_readTerm 1 = .ok (.iload_n 1, 1) := by decide +kernel
theorem dX12_readTerm_2 : decode cX12_readTerm 2 = .ok (.invokevirtual 191, 3) := by decide +kernel
theorem dX12_readTerm_5 : decode cX12_readTerm 5 = .ok (.aload_n 0, 1) := by decide +kernel
theorem dX12_readTerm_6 : decode cX12_readTerm 6 = .ok (.bipush 36, 2) := by decide +kernel
theorem dX12_readTerm_8 : decode cX12_readTerm 8 = .ok (.invokevirtual 182, 3) := by decide +kernel
theorem dX12_readTerm_11 : decode cX12_readTerm 11 = .ok (.ifCond .eq 18, 3) := by decide +kernel
theorem dX12_readTerm_14 : decode cX12_readTerm 14 = .ok (.aload_n 0, 1) := by decide +kernel
theorem dX12_readTerm_15 : decode cX12_readTerm 15 = .ok (.iload_n 1, 1) := by decide +kernel
theorem dX12_readTerm_16 : decode cX12_readTerm 16 = .ok (.invokevirtual 191, 3) := by decide +kernel
theorem dX12_readTerm_19 : decode cX12_readTerm 19 = .ok (.aload_n 0, 1) := by decide +kernel
theorem dX12_readTerm_20 : decode cX12_readTerm 20 = .ok (.sipush 3002, 3) := by decide +kernel
theorem dX12_readTerm_23 : decode cX12_readTerm 23 = .ok (.invokevirtual 170, 3) := by decide +kernel
theorem dX12_readTerm_26 : decode cX12_readTerm 26 = .ok (.goto (-21), 3) := by decide +kernel
theorem dX12_readTerm_29 : decode cX12_readTerm 29 = .ok (.return_, 1) := by decide +kernel
def f_X12_readTerm_5 (g : Nat → Int32 → zz_Mem → Option zz_Mem)  : Nat → Int32 → zz_Mem → Option zz_Mem
  | 0, _, _ => none
  | n + 1, v1, m =>
  zz_bnd (f_X12_eats (36 : Int32) m) fun r1 m2 =>
  if r1 = 0 then (
  some m2)
  else (
  zz_bndR (g 2 v1 m2) fun m3 =>
  zz_bndR (f_X12_codes (3002 : Int32) m3) fun m4 =>
  f_X12_readTerm_5 g n v1 m4)
theorem t_X12_readTerm_5 {l : Launch} {G : zz_G} (hN : 26 ≤ zz_N G) {g : Nat → Int32 → zz_Mem → Option zz_Mem} {d : Nat} (hd0 : 7 ≤ d) (hg2 : ∀ (q1 : Int32) (m : zz_Mem), zz_Con zz_shM l G mX12_readAtom d [.ref (zz_a G 0), .int q1] zz_vV zz_mV (g 2 q1 m) m)  : ∀ (n : Nat) (v1 : Int32) (m : zz_Mem), zz_Sim zz_shM l G mX12_readTerm (d + 1) zz_vV zz_mV (f_X12_readTerm_5 g n v1 m) 5 [(0, .ref (zz_a G 0)), (1, .int v1)] [] m := by
  intro n
  induction n with
  | zero => intro _ _; exact zs_none
  | succ n ih =>
    intro v1 m
    rw [f_X12_readTerm_5]
    refine zs_aload_n dX12_readTerm_5 rfl 0 rfl ?_
    refine zs_bipush (v := (36 : Int32)) dX12_readTerm_6 cb_36 ?_
    refine zs_cV_iW (rest := []) (k_X12_eats hN _ _) dX12_readTerm_8 lv_X12_182 ok_X12_eats (zz_rcv_o (shm_0 hN) rfl) (by omega) rfl rfl (Nat.le_of_ble_eq_true rfl) (fun r1 m2 => ?_)
    refine zs_if_eq (tgt := 29) dX12_readTerm_11 (by decide) ?_ ?_
    · exact zs_vret dX12_readTerm_29 rfl rfl rfl
    · refine zs_aload_n dX12_readTerm_14 rfl 0 rfl ?_
      refine zs_iload_n dX12_readTerm_15 rfl 1 rfl ?_
      refine zs_cV_vW (rest := []) (hg2 _ _) dX12_readTerm_16 lv_X12_191 ok_X12_readAtom (zz_rcv_o (shm_0 hN) rfl) (Nat.le_refl _) rfl rfl (Nat.le_of_ble_eq_true rfl) (fun m3 => ?_)
      refine zs_aload_n dX12_readTerm_19 rfl 0 rfl ?_
      refine zs_sipush (v := (3002 : Int32)) dX12_readTerm_20 cs_3002 ?_
      refine zs_cV_vW (rest := []) (k_X12_codes hN _ _) dX12_readTerm_23 lv_X12_170 ok_X12_codes (zz_rcv_o (shm_0 hN) rfl) (by omega) rfl rfl (Nat.le_of_ble_eq_true rfl) (fun m4 => ?_)
      refine zs_goto (tgt := 5) dX12_readTerm_26 (by decide) ?_
      exact ih _ _
def f_X12_readTerm (g : Nat → Int32 → zz_Mem → Option zz_Mem) (p1 : Int32) (m : zz_Mem) : Option zz_Mem :=
  zz_bndR (g 2 p1 m) fun m1 =>
  f_X12_readTerm_5 g zz_fuel p1 m1
theorem k_X12_readTerm {l : Launch} {G : zz_G} (hN : 26 ≤ zz_N G) {g : Nat → Int32 → zz_Mem → Option zz_Mem} {d : Nat} (hd0 : 7 ≤ d) (hg2 : ∀ (q1 : Int32) (m : zz_Mem), zz_Con zz_shM l G mX12_readAtom d [.ref (zz_a G 0), .int q1] zz_vV zz_mV (g 2 q1 m) m) : ∀ (p1 : Int32) (m : zz_Mem), zz_Con zz_shM l G mX12_readTerm (d + 1) [.ref (zz_a G 0), .int p1] zz_vV zz_mV (f_X12_readTerm g p1 m) m := by
  intro p1 m
  refine zz_con (lv := [(0, .ref (zz_a G 0)), (1, .int p1)]) (by decide +kernel) (Nat.le_of_ble_eq_true rfl) rfl ?_
  unfold f_X12_readTerm
  refine zs_aload_n dX12_readTerm_0 rfl 0 rfl ?_
  refine zs_iload_n dX12_readTerm_1 rfl 1 rfl ?_
  refine zs_cV_vW (rest := []) (hg2 _ _) dX12_readTerm_2 lv_X12_191 ok_X12_readAtom (zz_rcv_o (shm_0 hN) rfl) (Nat.le_refl _) rfl rfl (Nat.le_of_ble_eq_true rfl) (fun m1 => ?_)
  exact t_X12_readTerm_5 hN hd0 hg2 zz_fuel _ _
/-! X12_readAtom: PillarDeskModel.readAtom(I)V -/
theorem dX12_readAtom_0 : decode cX12_readAtom 0 = .ok (.aload_n 0, 1) := by decide +kernel
theorem dX12_readAtom_1 : decode cX12_readAtom 1 = .ok (.bipush 29, 2) := by decide +kernel
theorem dX12_readAtom_3 : decode cX12_readAtom 3 = .ok (.invokevirtual 153, 3) := by decide +kernel
theorem dX12_readAtom_6 : decode cX12_readAtom 6 = .ok (.ifCond .eq 18, 3) := by decide +kernel
theorem dX12_readAtom_9 : decode cX12_readAtom 9 = .ok (.aload_n 0, 1) := by decide +kernel
theorem dX12_readAtom_10 : decode cX12_readAtom 10 = .ok (.aload_n 0, 1) := by decide +kernel
theorem dX12_readAtom_11 : decode cX12_readAtom 11 = .ok (.getfield 142, 3) := by decide +kernel
theorem dX12_readAtom_14 : decode cX12_readAtom 14 = .ok (.invokevirtual 170, 3) := by decide +kernel
theorem dX12_readAtom_17 : decode cX12_readAtom 17 = .ok (.aload_n 0, 1) := by decide +kernel
theorem dX12_readAtom_18 : decode cX12_readAtom 18 = .ok (.invokevirtual 156, 3) := by decide +kernel
theorem dX12_readAtom_21 : decode cX12_readAtom 21 = .ok (.goto 109, 3) := by decide +kernel
theorem dX12_readAtom_24 : decode cX12_readAtom 24 = .ok (.aload_n 0, 1) := by decide +kernel
theorem dX12_readAtom_25 : decode cX12_readAtom 25 = .ok (.getfield 147, 3) := by decide +kernel
theorem dX12_readAtom_28 : decode cX12_readAtom 28 = .ok (.ifCond .ne 38, 3) := by decide +kernel
theorem dX12_readAtom_31 : decode cX12_readAtom 31 = .ok (.aload_n 0, 1) := by decide +kernel
theorem dX12_readAtom_32 : decode cX12_readAtom 32 = .ok (.aload_n 0, 1) := by decide +kernel
theorem dX12_readAtom_33 : decode cX12_readAtom 33 = .ok (.getfield 129, 3) := by decide +kernel
theorem dX12_readAtom_36 : decode cX12_readAtom 36 = .ok (.invokevirtual 173, 3) := by decide +kernel
theorem dX12_readAtom_39 : decode cX12_readAtom 39 = .ok (.iconst (-1), 1) := by decide +kernel
theorem dX12_readAtom_40 : decode cX12_readAtom 40 = .ok (.if_icmp .eq 26, 3) := by decide +kernel
theorem dX12_readAtom_43 : decode cX12_readAtom 43 = .ok (.aload_n 0, 1) := by decide +kernel
theorem dX12_readAtom_44 : decode cX12_readAtom 44 = .ok (.sipush 1000, 3) := by decide +kernel
theorem dX12_readAtom_47 : decode cX12_readAtom 47 = .ok (.aload_n 0, 1) := by decide +kernel
theorem dX12_readAtom_48 : decode cX12_readAtom 48 = .ok (.aload_n 0, 1) := by decide +kernel
theorem dX12_readAtom_49 : decode cX12_readAtom 49 = .ok (.getfield 129, 3) := by decide +kernel
theorem dX12_readAtom_52 : decode cX12_readAtom 52 = .ok (.invokevirtual 173, 3) := by decide +kernel
theorem dX12_readAtom_55 : decode cX12_readAtom 55 = .ok (.iadd, 1) := by decide +kernel
theorem dX12_readAtom_56 : decode cX12_readAtom 56 = .ok (.invokevirtual 170, 3) := by decide +kernel
theorem dX12_readAtom_59 : decode cX12_readAtom 59 = .ok (.aload_n 0, 1) := by decide +kernel
theorem dX12_readAtom_60 : decode cX12_readAtom 60 = .ok (.invokevirtual 156, 3) := by decide +kernel
theorem dX12_readAtom_63 : decode cX12_readAtom 63 = .ok (.goto 67, 3) := by decide +kernel
theorem dX12_readAtom_66 : decode cX12_readAtom 66 = .ok (.aload_n 0, 1) := by decide +kernel
theorem dX12_readAtom_67 : decode cX12_readAtom 67 = .ok (.bipush 37, 2) := by decide +kernel
theorem dX12_readAtom_69 : decode cX12_readAtom 69 = .ok (.invokevirtual 153, 3) := by decide +kernel
theorem dX12_readAtom_72 : decode cX12_readAtom 72 = .ok (.ifCond .eq 36, 3) := by decide +kernel
theorem dX12_readAtom_75 : decode cX12_readAtom 75 = .ok (.aload_n 0, 1) := by decide +kernel
theorem dX12_readAtom_76 : decode cX12_readAtom 76 = .ok (.iload_n 1, 1) := by decide +kernel
theorem dX12_readAtom_77 : decode cX12_readAtom 77 = .ok (.invokevirtual 176, 3) := by decide +kernel
theorem dX12_readAtom_80 : decode cX12_readAtom 80 = .ok (.ifCond .ne 4, 3) := by decide +kernel
theorem dX12_readAtom_83 : decode cX12_readAtom 83 = .ok (.return_, 1) := by decide +kernel
theorem dX12_readAtom_84 : decode cX12_readAtom 84 = .ok (.aload_n 0, 1) := by decide +kernel
theorem dX12_readAtom_85 : decode cX12_readAtom 85 = .ok (.iload_n 1, 1) := by decide +kernel
theorem dX12_readAtom_86 : decode cX12_readAtom 86 = .ok (.iconst 1, 1) := by decide +kernel
theorem dX12_readAtom_87 : decode cX12_readAtom 87 = .ok (.iadd, 1) := by decide +kernel
theorem dX12_readAtom_88 : decode cX12_readAtom 88 = .ok (.invokevirtual 179, 3) := by decide +kernel
theorem dX12_readAtom_91 : decode cX12_readAtom 91 = .ok (.aload_n 0, 1) := by decide +kernel
theorem dX12_readAtom_92 : decode cX12_readAtom 92 = .ok (.bipush 38, 2) := by decide +kernel
theorem dX12_readAtom_94 : decode cX12_readAtom 94 = .ok (.invokevirtual 182, 3) := by decide +kernel
theorem dX12_readAtom_97 : decode cX12_readAtom 97 = .ok (.ifCond .ne 33, 3) := by decide +kernel
theorem dX12_readAtom_100 : decode cX12_readAtom 100 = .ok (.aload_n 0, 1) := by decide +kernel
theorem dX12_readAtom_101 : decode cX12_readAtom 101 = .ok (.iconst 2, 1) := by decide +kernel
theorem dX12_readAtom_102 : decode cX12_readAtom 102 = .ok (.invokevirtual 159, 3) := by decide +kernel
theorem dX12_readAtom_105 : decode cX12_readAtom 105 = .ok (.goto 25, 3) := by decide +kernel
theorem dX12_readAtom_108 : decode cX12_readAtom 108 = .ok (.aload_n 0, 1) := by decide +kernel
theorem dX12_readAtom_109 : decode cX12_readAtom 109 = .ok (.bipush 15, 2) := by decide +kernel
theorem dX12_readAtom_111 : decode cX12_readAtom 111 = .ok (.invokevirtual 153, 3) := by decide +kernel
theorem dX12_readAtom_114 : decode cX12_readAtom 114 = .ok (.ifCond .eq 11, 3) := by decide +kernel
theorem dX12_readAtom_117 : decode cX12_readAtom 117 = .ok (.aload_n 0, 1) := by decide +kernel
theorem dX12_readAtom_118 : decode cX12_readAtom 118 = .ok (.iload_n 1, 1) := by decide +kernel
theorem dX12_readAtom_119 : decode cX12_readAtom 119 = .ok (.invokevirtual 185, 3) := by decide +kernel
theorem dX12_readAtom_122 : decode cX12_readAtom 122 = .ok (.goto 8, 3) := by decide +kernel
theorem dX12_readAtom_125 : decode cX12_readAtom 125 = .ok (.aload_n 0, 1) := by decide +kernel
theorem dX12_readAtom_126 : decode cX12_readAtom 126 = .ok (.iconst 2, 1) := by decide +kernel
theorem dX12_readAtom_127 : decode cX12_readAtom 127 = .ok (.invokevirtual 159, 3) := by decide +kernel
theorem dX12_readAtom_130 : decode cX12_readAtom 130 = .ok (.return_, 1) := by decide +kernel
def f_X12_readAtom_66 (g : Nat → Int32 → zz_Mem → Option zz_Mem)  (v1 : Int32) (m : zz_Mem) : Option zz_Mem :=
  zz_bndR (f_X12_is m (37 : Int32)) fun r1 =>
  if r1 = 0 then (
  zz_bndR (f_X12_is m (15 : Int32)) fun r2 =>
  if r2 = 0 then (
  zz_bndR (f_X12_fails (2 : Int32) m) fun m3 =>
  some m3)
  else (
  zz_bndR (g 3 v1 m) fun m4 =>
  some m4))
  else (
  zz_bnd (f_X12_goesIn v1 m) fun r5 m6 =>
  if r5 = 0 then (
  some m6)
  else (
  zz_bndR (g 0 (v1 + (1 : Int32)) m6) fun m7 =>
  zz_bnd (f_X12_eats (38 : Int32) m7) fun r8 m9 =>
  if r8 = 0 then (
  zz_bndR (f_X12_fails (2 : Int32) m9) fun m10 =>
  some m10)
  else (
  some m9)))
theorem t_X12_readAtom_66 {l : Launch} {G : zz_G} (hN : 26 ≤ zz_N G) {g : Nat → Int32 → zz_Mem → Option zz_Mem} {d : Nat} (hd0 : 7 ≤ d) (hg0 : ∀ (q1 : Int32) (m : zz_Mem), zz_Con zz_shM l G mX12_readSum d [.ref (zz_a G 0), .int q1] zz_vV zz_mV (g 0 q1 m) m) (hg3 : ∀ (q1 : Int32) (m : zz_Mem), zz_Con zz_shM l G mX12_readIf d [.ref (zz_a G 0), .int q1] zz_vV zz_mV (g 3 q1 m) m)  : ∀ (v1 : Int32) (m : zz_Mem), zz_Sim zz_shM l G mX12_readAtom (d + 1) zz_vV zz_mV (f_X12_readAtom_66 g v1 m) 66 [(0, .ref (zz_a G 0)), (1, .int v1)] [] m := by
  intro v1 m
  unfold f_X12_readAtom_66
  refine zs_aload_n dX12_readAtom_66 rfl 0 rfl ?_
  refine zs_bipush (v := (37 : Int32)) dX12_readAtom_67 cb_37 ?_
  refine zs_cV_iR (rest := []) (k_X12_is hN _ _) dX12_readAtom_69 lv_X12_153 ok_X12_is (zz_rcv_o (shm_0 hN) rfl) (by omega) rfl rfl (Nat.le_of_ble_eq_true rfl) (fun r1 => ?_)
  refine zs_if_eq (tgt := 108) dX12_readAtom_72 (by decide) ?_ ?_
  · refine zs_aload_n dX12_readAtom_108 rfl 0 rfl ?_
    refine zs_bipush (v := (15 : Int32)) dX12_readAtom_109 cb_15 ?_
    refine zs_cV_iR (rest := []) (k_X12_is hN _ _) dX12_readAtom_111 lv_X12_153 ok_X12_is (zz_rcv_o (shm_0 hN) rfl) (by omega) rfl rfl (Nat.le_of_ble_eq_true rfl) (fun r2 => ?_)
    refine zs_if_eq (tgt := 125) dX12_readAtom_114 (by decide) ?_ ?_
    · refine zs_aload_n dX12_readAtom_125 rfl 0 rfl ?_
      refine zs_iconst (v := (2 : Int32)) dX12_readAtom_126 ci_2 ?_
      refine zs_cV_vW (rest := []) (k_X12_fails hN _ _) dX12_readAtom_127 lv_X12_159 ok_X12_fails (zz_rcv_o (shm_0 hN) rfl) (by omega) rfl rfl (Nat.le_of_ble_eq_true rfl) (fun m3 => ?_)
      exact zs_vret dX12_readAtom_130 rfl rfl rfl
    · refine zs_aload_n dX12_readAtom_117 rfl 0 rfl ?_
      refine zs_iload_n dX12_readAtom_118 rfl 1 rfl ?_
      refine zs_cV_vW (rest := []) (hg3 _ _) dX12_readAtom_119 lv_X12_185 ok_X12_readIf (zz_rcv_o (shm_0 hN) rfl) (Nat.le_refl _) rfl rfl (Nat.le_of_ble_eq_true rfl) (fun m4 => ?_)
      refine zs_goto (tgt := 130) dX12_readAtom_122 (by decide) ?_
      exact zs_vret dX12_readAtom_130 rfl rfl rfl
  · refine zs_aload_n dX12_readAtom_75 rfl 0 rfl ?_
    refine zs_iload_n dX12_readAtom_76 rfl 1 rfl ?_
    refine zs_cV_iW (rest := []) (k_X12_goesIn hN _ _) dX12_readAtom_77 lv_X12_176 ok_X12_goesIn (zz_rcv_o (shm_0 hN) rfl) (by omega) rfl rfl (Nat.le_of_ble_eq_true rfl) (fun r5 m6 => ?_)
    refine zs_if_ne (tgt := 84) dX12_readAtom_80 (by decide) ?_ ?_
    · refine zs_aload_n dX12_readAtom_84 rfl 0 rfl ?_
      refine zs_iload_n dX12_readAtom_85 rfl 1 rfl ?_
      refine zs_iconst (v := (1 : Int32)) dX12_readAtom_86 ci_1 ?_
      refine zs_iadd dX12_readAtom_87 ?_
      refine zs_cV_vW (rest := []) (hg0 _ _) dX12_readAtom_88 lv_X12_179 ok_X12_readSum (zz_rcv_o (shm_0 hN) rfl) (Nat.le_refl _) rfl rfl (Nat.le_of_ble_eq_true rfl) (fun m7 => ?_)
      refine zs_aload_n dX12_readAtom_91 rfl 0 rfl ?_
      refine zs_bipush (v := (38 : Int32)) dX12_readAtom_92 cb_38 ?_
      refine zs_cV_iW (rest := []) (k_X12_eats hN _ _) dX12_readAtom_94 lv_X12_182 ok_X12_eats (zz_rcv_o (shm_0 hN) rfl) (by omega) rfl rfl (Nat.le_of_ble_eq_true rfl) (fun r8 m9 => ?_)
      refine zs_if_ne (tgt := 130) dX12_readAtom_97 (by decide) ?_ ?_
      · exact zs_vret dX12_readAtom_130 rfl rfl rfl
      · refine zs_aload_n dX12_readAtom_100 rfl 0 rfl ?_
        refine zs_iconst (v := (2 : Int32)) dX12_readAtom_101 ci_2 ?_
        refine zs_cV_vW (rest := []) (k_X12_fails hN _ _) dX12_readAtom_102 lv_X12_159 ok_X12_fails (zz_rcv_o (shm_0 hN) rfl) (by omega) rfl rfl (Nat.le_of_ble_eq_true rfl) (fun m10 => ?_)
        refine zs_goto (tgt := 130) dX12_readAtom_105 (by decide) ?_
        exact zs_vret dX12_readAtom_130 rfl rfl rfl
    · exact zs_vret dX12_readAtom_83 rfl rfl rfl
def f_X12_readAtom (g : Nat → Int32 → zz_Mem → Option zz_Mem) (p1 : Int32) (m : zz_Mem) : Option zz_Mem :=
  zz_bndR (f_X12_is m (29 : Int32)) fun r1 =>
  if r1 = 0 then (
  if (m.1 0 11) = 0 then (
  zz_bndR (f_X12_wordOf m (m.1 0 9)) fun r2 =>
  if r2 = (-1 : Int32) then (
  f_X12_readAtom_66 g p1 m)
  else (
  zz_bndR (f_X12_wordOf m (m.1 0 9)) fun r3 =>
  zz_bndR (f_X12_codes ((1000 : Int32) + r3) m) fun m4 =>
  zz_bndR (f_X12_next m4) fun m5 =>
  some m5))
  else (
  f_X12_readAtom_66 g p1 m))
  else (
  zz_bndR (f_X12_codes (m.1 0 10) m) fun m6 =>
  zz_bndR (f_X12_next m6) fun m7 =>
  some m7)
theorem k_X12_readAtom {l : Launch} {G : zz_G} (hN : 26 ≤ zz_N G) {g : Nat → Int32 → zz_Mem → Option zz_Mem} {d : Nat} (hd0 : 7 ≤ d) (hg0 : ∀ (q1 : Int32) (m : zz_Mem), zz_Con zz_shM l G mX12_readSum d [.ref (zz_a G 0), .int q1] zz_vV zz_mV (g 0 q1 m) m) (hg3 : ∀ (q1 : Int32) (m : zz_Mem), zz_Con zz_shM l G mX12_readIf d [.ref (zz_a G 0), .int q1] zz_vV zz_mV (g 3 q1 m) m) : ∀ (p1 : Int32) (m : zz_Mem), zz_Con zz_shM l G mX12_readAtom (d + 1) [.ref (zz_a G 0), .int p1] zz_vV zz_mV (f_X12_readAtom g p1 m) m := by
  intro p1 m
  refine zz_con (lv := [(0, .ref (zz_a G 0)), (1, .int p1)]) (by decide +kernel) (Nat.le_of_ble_eq_true rfl) rfl ?_
  unfold f_X12_readAtom
  refine zs_aload_n dX12_readAtom_0 rfl 0 rfl ?_
  refine zs_bipush (v := (29 : Int32)) dX12_readAtom_1 cb_29 ?_
  refine zs_cV_iR (rest := []) (k_X12_is hN _ _) dX12_readAtom_3 lv_X12_153 ok_X12_is (zz_rcv_o (shm_0 hN) rfl) (by omega) rfl rfl (Nat.le_of_ble_eq_true rfl) (fun r1 => ?_)
  refine zs_if_eq (tgt := 24) dX12_readAtom_6 (by decide) ?_ ?_
  · refine zs_aload_n dX12_readAtom_24 rfl 0 rfl ?_
    refine zs_getI fl_X12_147 dX12_readAtom_25 (shm_0 hN) rfl ?_
    refine zs_if_ne (tgt := 66) dX12_readAtom_28 (by decide) ?_ ?_
    · exact t_X12_readAtom_66 hN hd0 hg0 hg3 _ _
    · refine zs_aload_n dX12_readAtom_31 rfl 0 rfl ?_
      refine zs_aload_n dX12_readAtom_32 rfl 0 rfl ?_
      refine zs_getI fl_X12_129 dX12_readAtom_33 (shm_0 hN) rfl ?_
      refine zs_cV_iR (rest := []) (k_X12_wordOf hN _ _) dX12_readAtom_36 lv_X12_173 ok_X12_wordOf (zz_rcv_o (shm_0 hN) rfl) (by omega) rfl rfl (Nat.le_of_ble_eq_true rfl) (fun r2 => ?_)
      refine zs_iconst (v := (-1 : Int32)) dX12_readAtom_39 ci_m1 ?_
      refine zs_icmp_eq (tgt := 66) dX12_readAtom_40 (by decide) ?_ ?_
      · exact t_X12_readAtom_66 hN hd0 hg0 hg3 _ _
      · refine zs_aload_n dX12_readAtom_43 rfl 0 rfl ?_
        refine zs_sipush (v := (1000 : Int32)) dX12_readAtom_44 cs_1000 ?_
        refine zs_aload_n dX12_readAtom_47 rfl 0 rfl ?_
        refine zs_aload_n dX12_readAtom_48 rfl 0 rfl ?_
        refine zs_getI fl_X12_129 dX12_readAtom_49 (shm_0 hN) rfl ?_
        refine zs_cV_iR (rest := [.int (1000 : Int32), .ref (zz_a G 0)]) (k_X12_wordOf hN _ _) dX12_readAtom_52 lv_X12_173 ok_X12_wordOf (zz_rcv_o (shm_0 hN) rfl) (by omega) rfl rfl (Nat.le_of_ble_eq_true rfl) (fun r3 => ?_)
        refine zs_iadd dX12_readAtom_55 ?_
        refine zs_cV_vW (rest := []) (k_X12_codes hN _ _) dX12_readAtom_56 lv_X12_170 ok_X12_codes (zz_rcv_o (shm_0 hN) rfl) (by omega) rfl rfl (Nat.le_of_ble_eq_true rfl) (fun m4 => ?_)
        refine zs_aload_n dX12_readAtom_59 rfl 0 rfl ?_
        refine zs_cV_vW (rest := []) (k_X12_next hN  _) dX12_readAtom_60 lv_X12_156 ok_X12_next (zz_rcv_o (shm_0 hN) rfl) (by omega) rfl rfl (Nat.le_of_ble_eq_true rfl) (fun m5 => ?_)
        refine zs_goto (tgt := 130) dX12_readAtom_63 (by decide) ?_
        exact zs_vret dX12_readAtom_130 rfl rfl rfl
  · refine zs_aload_n dX12_readAtom_9 rfl 0 rfl ?_
    refine zs_aload_n dX12_readAtom_10 rfl 0 rfl ?_
    refine zs_getI fl_X12_142 dX12_readAtom_11 (shm_0 hN) rfl ?_
    refine zs_cV_vW (rest := []) (k_X12_codes hN _ _) dX12_readAtom_14 lv_X12_170 ok_X12_codes (zz_rcv_o (shm_0 hN) rfl) (by omega) rfl rfl (Nat.le_of_ble_eq_true rfl) (fun m6 => ?_)
    refine zs_aload_n dX12_readAtom_17 rfl 0 rfl ?_
    refine zs_cV_vW (rest := []) (k_X12_next hN  _) dX12_readAtom_18 lv_X12_156 ok_X12_next (zz_rcv_o (shm_0 hN) rfl) (by omega) rfl rfl (Nat.le_of_ble_eq_true rfl) (fun m7 => ?_)
    refine zs_goto (tgt := 130) dX12_readAtom_21 (by decide) ?_
    exact zs_vret dX12_readAtom_130 rfl rfl rfl
/-! X12_readIf: PillarDeskModel.readIf(I)V -/
theorem dX12_readIf_0 : decode cX12_readIf 0 = .ok (.aload_n 0, 1) := by decide +kernel
theorem dX12_readIf_1 : decode cX12_readIf 1 = .ok (.iload_n 1, 1) := by decide +kernel
theorem dX12_readIf_2 : decode cX12_readIf 2 = .ok (.invokevirtual 176, 3) := by decide +kernel
theorem dX12_readIf_5 : decode cX12_readIf 5 = .ok (.ifCond .ne 4, 3) := by decide +kernel
theorem dX12_readIf_8 : decode cX12_readIf 8 = .ok (.return_, 1) := by decide +kernel
theorem dX12_readIf_9 : decode cX12_readIf 9 = .ok (.aload_n 0, 1) := by decide +kernel
theorem dX12_readIf_10 : decode cX12_readIf 10 = .ok (.iload_n 1, 1) := by decide +kernel
theorem dX12_readIf_11 : decode cX12_readIf 11 = .ok (.iconst 1, 1) := by decide +kernel
theorem dX12_readIf_12 : decode cX12_readIf 12 = .ok (.iadd, 1) := by decide +kernel
theorem dX12_readIf_13 : decode cX12_readIf 13 = .ok (.invokevirtual 188, 3) := by decide +kernel
theorem dX12_readIf_16 : decode cX12_readIf 16 = .ok (.aload_n 0, 1) := by decide +kernel
theorem dX12_readIf_17 : decode cX12_readIf 17 = .ok (.bipush 16, 2) := by decide +kernel
theorem dX12_readIf_19 : decode cX12_readIf 19 = .ok (.invokevirtual 182, 3) := by decide +kernel
theorem dX12_readIf_22 : decode cX12_readIf 22 = .ok (.ifCond .ne 8, 3) := by decide +kernel
theorem dX12_readIf_25 : decode cX12_readIf 25 = .ok (.aload_n 0, 1) := by decide +kernel
theorem dX12_readIf_26 : decode cX12_readIf 26 = .ok (.iconst 2, 1) := by decide +kernel
theorem dX12_readIf_27 : decode cX12_readIf 27 = .ok (.invokevirtual 159, 3) := by decide +kernel
theorem dX12_readIf_30 : decode cX12_readIf 30 = .ok (.aload_n 0, 1) := by decide +kernel
theorem dX12_readIf_31 : decode cX12_readIf 31 = .ok (.iload_n 1, 1) := by decide +kernel
theorem dX12_readIf_32 : decode cX12_readIf 32 = .ok (.iconst 1, 1) := by decide +kernel
theorem dX12_readIf_33 : decode cX12_readIf 33 = .ok (.iadd, 1) := by decide +kernel
theorem dX12_readIf_34 : decode cX12_readIf 34 = .ok (.invokevirtual 179, 3) := by decide +kernel
theorem dX12_readIf_37 : decode cX12_readIf 37 = .ok (.aload_n 0, 1) := by decide +kernel
theorem dX12_readIf_38 : decode cX12_readIf 38 = .ok (.bipush 17, 2) := by decide +kernel
theorem dX12_readIf_40 : decode cX12_readIf 40 = .ok (.invokevirtual 182, 3) := by decide +kernel
theorem dX12_readIf_43 : decode cX12_readIf 43 = .ok (.ifCond .ne 8, 3) := by decide +kernel
theorem dX12_readIf_46 : decode cX12_readIf 46 = .ok (.aload_n 0, 1) := by decide +kernel
theorem dX12_readIf_47 : decode cX12_readIf 47 = .ok (.iconst 2, 1) := by decide +kernel
theorem dX12_readIf_48 : decode cX12_readIf 48 = .ok (.invokevirtual 159, 3) := by decide +kernel
theorem dX12_readIf_51 : decode cX12_readIf 51 = .ok (.aload_n 0, 1) := by decide +kernel
theorem dX12_readIf_52 : decode cX12_readIf 52 = .ok (.iload_n 1, 1) := by decide +kernel
theorem dX12_readIf_53 : decode cX12_readIf 53 = .ok (.iconst 1, 1) := by decide +kernel
theorem dX12_readIf_54 : decode cX12_readIf 54 = .ok (.iadd, 1) := by decide +kernel
theorem dX12_readIf_55 : decode cX12_readIf 55 = .ok (.invokevirtual 179, 3) := by decide +kernel
theorem dX12_readIf_58 : decode cX12_readIf 58 = .ok (.aload_n 0, 1) := by decide +kernel
theorem dX12_readIf_59 : decode cX12_readIf 59 = .ok (.bipush 18, 2) := by decide +kernel
theorem dX12_readIf_61 : decode cX12_readIf 61 = .ok (.invokevirtual 182, 3) := by decide +kernel
theorem dX12_readIf_64 : decode cX12_readIf 64 = .ok (.ifCond .ne 8, 3) := by decide +kernel
theorem dX12_readIf_67 : decode cX12_readIf 67 = .ok (.aload_n 0, 1) := by decide +kernel
theorem dX12_readIf_68 : decode cX12_readIf 68 = .ok (.iconst 2, 1) := by decide +kernel
theorem dX12_readIf_69 : decode cX12_readIf 69 = .ok (.invokevirtual 159, 3) := by decide +kernel
theorem dX12_readIf_72 : decode cX12_readIf 72 = .ok (.aload_n 0, 1) := by decide +kernel
theorem dX12_readIf_73 : decode cX12_readIf 73 = .ok (.sipush 3009, 3) := by decide +kernel
theorem dX12_readIf_76 : decode cX12_readIf 76 = .ok (.invokevirtual 170, 3) := by decide +kernel
theorem dX12_readIf_79 : decode cX12_readIf 79 = .ok (.return_, 1) := by decide +kernel
def f_X12_readIf_72 (g : Nat → Int32 → zz_Mem → Option zz_Mem)  (m : zz_Mem) : Option zz_Mem :=
  zz_bndR (f_X12_codes (3009 : Int32) m) fun m1 =>
  some m1
theorem t_X12_readIf_72 {l : Launch} {G : zz_G} (hN : 26 ≤ zz_N G) {g : Nat → Int32 → zz_Mem → Option zz_Mem} {d : Nat} (hd0 : 7 ≤ d) (hg0 : ∀ (q1 : Int32) (m : zz_Mem), zz_Con zz_shM l G mX12_readSum d [.ref (zz_a G 0), .int q1] zz_vV zz_mV (g 0 q1 m) m) (hg4 : ∀ (q1 : Int32) (m : zz_Mem), zz_Con zz_shM l G mX12_readTruth d [.ref (zz_a G 0), .int q1] zz_vV zz_mV (g 4 q1 m) m)  : ∀ (m : zz_Mem), zz_Sim zz_shM l G mX12_readIf (d + 1) zz_vV zz_mV (f_X12_readIf_72 g m) 72 [(0, .ref (zz_a G 0))] [] m := by
  intro m
  unfold f_X12_readIf_72
  refine zs_aload_n dX12_readIf_72 rfl 0 rfl ?_
  refine zs_sipush (v := (3009 : Int32)) dX12_readIf_73 cs_3009 ?_
  refine zs_cV_vW (rest := []) (k_X12_codes hN _ _) dX12_readIf_76 lv_X12_170 ok_X12_codes (zz_rcv_o (shm_0 hN) rfl) (by omega) rfl rfl (Nat.le_of_ble_eq_true rfl) (fun m1 => ?_)
  exact zs_vret dX12_readIf_79 rfl rfl rfl
def f_X12_readIf_51 (g : Nat → Int32 → zz_Mem → Option zz_Mem)  (v1 : Int32) (m : zz_Mem) : Option zz_Mem :=
  zz_bndR (g 0 (v1 + (1 : Int32)) m) fun m1 =>
  zz_bnd (f_X12_eats (18 : Int32) m1) fun r2 m3 =>
  if r2 = 0 then (
  zz_bndR (f_X12_fails (2 : Int32) m3) fun m4 =>
  f_X12_readIf_72 g m4)
  else (
  f_X12_readIf_72 g m3)
theorem t_X12_readIf_51 {l : Launch} {G : zz_G} (hN : 26 ≤ zz_N G) {g : Nat → Int32 → zz_Mem → Option zz_Mem} {d : Nat} (hd0 : 7 ≤ d) (hg0 : ∀ (q1 : Int32) (m : zz_Mem), zz_Con zz_shM l G mX12_readSum d [.ref (zz_a G 0), .int q1] zz_vV zz_mV (g 0 q1 m) m) (hg4 : ∀ (q1 : Int32) (m : zz_Mem), zz_Con zz_shM l G mX12_readTruth d [.ref (zz_a G 0), .int q1] zz_vV zz_mV (g 4 q1 m) m)  : ∀ (v1 : Int32) (m : zz_Mem), zz_Sim zz_shM l G mX12_readIf (d + 1) zz_vV zz_mV (f_X12_readIf_51 g v1 m) 51 [(0, .ref (zz_a G 0)), (1, .int v1)] [] m := by
  intro v1 m
  unfold f_X12_readIf_51
  refine zs_aload_n dX12_readIf_51 rfl 0 rfl ?_
  refine zs_iload_n dX12_readIf_52 rfl 1 rfl ?_
  refine zs_iconst (v := (1 : Int32)) dX12_readIf_53 ci_1 ?_
  refine zs_iadd dX12_readIf_54 ?_
  refine zs_cV_vW (rest := []) (hg0 _ _) dX12_readIf_55 lv_X12_179 ok_X12_readSum (zz_rcv_o (shm_0 hN) rfl) (Nat.le_refl _) rfl rfl (Nat.le_of_ble_eq_true rfl) (fun m1 => ?_)
  refine zs_aload_n dX12_readIf_58 rfl 0 rfl ?_
  refine zs_bipush (v := (18 : Int32)) dX12_readIf_59 cb_18 ?_
  refine zs_cV_iW (rest := []) (k_X12_eats hN _ _) dX12_readIf_61 lv_X12_182 ok_X12_eats (zz_rcv_o (shm_0 hN) rfl) (by omega) rfl rfl (Nat.le_of_ble_eq_true rfl) (fun r2 m3 => ?_)
  refine zs_if_ne (tgt := 72) dX12_readIf_64 (by decide) ?_ ?_
  · refine zs_sub [0] rfl ?_
    exact t_X12_readIf_72 hN hd0 hg0 hg4 _
  · refine zs_aload_n dX12_readIf_67 rfl 0 rfl ?_
    refine zs_iconst (v := (2 : Int32)) dX12_readIf_68 ci_2 ?_
    refine zs_cV_vW (rest := []) (k_X12_fails hN _ _) dX12_readIf_69 lv_X12_159 ok_X12_fails (zz_rcv_o (shm_0 hN) rfl) (by omega) rfl rfl (Nat.le_of_ble_eq_true rfl) (fun m4 => ?_)
    refine zs_sub [0] rfl ?_
    exact t_X12_readIf_72 hN hd0 hg0 hg4 _
def f_X12_readIf_30 (g : Nat → Int32 → zz_Mem → Option zz_Mem)  (v1 : Int32) (m : zz_Mem) : Option zz_Mem :=
  zz_bndR (g 0 (v1 + (1 : Int32)) m) fun m1 =>
  zz_bnd (f_X12_eats (17 : Int32) m1) fun r2 m3 =>
  if r2 = 0 then (
  zz_bndR (f_X12_fails (2 : Int32) m3) fun m4 =>
  f_X12_readIf_51 g v1 m4)
  else (
  f_X12_readIf_51 g v1 m3)
theorem t_X12_readIf_30 {l : Launch} {G : zz_G} (hN : 26 ≤ zz_N G) {g : Nat → Int32 → zz_Mem → Option zz_Mem} {d : Nat} (hd0 : 7 ≤ d) (hg0 : ∀ (q1 : Int32) (m : zz_Mem), zz_Con zz_shM l G mX12_readSum d [.ref (zz_a G 0), .int q1] zz_vV zz_mV (g 0 q1 m) m) (hg4 : ∀ (q1 : Int32) (m : zz_Mem), zz_Con zz_shM l G mX12_readTruth d [.ref (zz_a G 0), .int q1] zz_vV zz_mV (g 4 q1 m) m)  : ∀ (v1 : Int32) (m : zz_Mem), zz_Sim zz_shM l G mX12_readIf (d + 1) zz_vV zz_mV (f_X12_readIf_30 g v1 m) 30 [(0, .ref (zz_a G 0)), (1, .int v1)] [] m := by
  intro v1 m
  unfold f_X12_readIf_30
  refine zs_aload_n dX12_readIf_30 rfl 0 rfl ?_
  refine zs_iload_n dX12_readIf_31 rfl 1 rfl ?_
  refine zs_iconst (v := (1 : Int32)) dX12_readIf_32 ci_1 ?_
  refine zs_iadd dX12_readIf_33 ?_
  refine zs_cV_vW (rest := []) (hg0 _ _) dX12_readIf_34 lv_X12_179 ok_X12_readSum (zz_rcv_o (shm_0 hN) rfl) (Nat.le_refl _) rfl rfl (Nat.le_of_ble_eq_true rfl) (fun m1 => ?_)
  refine zs_aload_n dX12_readIf_37 rfl 0 rfl ?_
  refine zs_bipush (v := (17 : Int32)) dX12_readIf_38 cb_17 ?_
  refine zs_cV_iW (rest := []) (k_X12_eats hN _ _) dX12_readIf_40 lv_X12_182 ok_X12_eats (zz_rcv_o (shm_0 hN) rfl) (by omega) rfl rfl (Nat.le_of_ble_eq_true rfl) (fun r2 m3 => ?_)
  refine zs_if_ne (tgt := 51) dX12_readIf_43 (by decide) ?_ ?_
  · exact t_X12_readIf_51 hN hd0 hg0 hg4 _ _
  · refine zs_aload_n dX12_readIf_46 rfl 0 rfl ?_
    refine zs_iconst (v := (2 : Int32)) dX12_readIf_47 ci_2 ?_
    refine zs_cV_vW (rest := []) (k_X12_fails hN _ _) dX12_readIf_48 lv_X12_159 ok_X12_fails (zz_rcv_o (shm_0 hN) rfl) (by omega) rfl rfl (Nat.le_of_ble_eq_true rfl) (fun m4 => ?_)
    exact t_X12_readIf_51 hN hd0 hg0 hg4 _ _
def f_X12_readIf (g : Nat → Int32 → zz_Mem → Option zz_Mem) (p1 : Int32) (m : zz_Mem) : Option zz_Mem :=
  zz_bnd (f_X12_goesIn p1 m) fun r1 m2 =>
  if r1 = 0 then (
  some m2)
  else (
  zz_bndR (g 4 (p1 + (1 : Int32)) m2) fun m3 =>
  zz_bnd (f_X12_eats (16 : Int32) m3) fun r4 m5 =>
  if r4 = 0 then (
  zz_bndR (f_X12_fails (2 : Int32) m5) fun m6 =>
  f_X12_readIf_30 g p1 m6)
  else (
  f_X12_readIf_30 g p1 m5))
theorem k_X12_readIf {l : Launch} {G : zz_G} (hN : 26 ≤ zz_N G) {g : Nat → Int32 → zz_Mem → Option zz_Mem} {d : Nat} (hd0 : 7 ≤ d) (hg0 : ∀ (q1 : Int32) (m : zz_Mem), zz_Con zz_shM l G mX12_readSum d [.ref (zz_a G 0), .int q1] zz_vV zz_mV (g 0 q1 m) m) (hg4 : ∀ (q1 : Int32) (m : zz_Mem), zz_Con zz_shM l G mX12_readTruth d [.ref (zz_a G 0), .int q1] zz_vV zz_mV (g 4 q1 m) m) : ∀ (p1 : Int32) (m : zz_Mem), zz_Con zz_shM l G mX12_readIf (d + 1) [.ref (zz_a G 0), .int p1] zz_vV zz_mV (f_X12_readIf g p1 m) m := by
  intro p1 m
  refine zz_con (lv := [(0, .ref (zz_a G 0)), (1, .int p1)]) (by decide +kernel) (Nat.le_of_ble_eq_true rfl) rfl ?_
  unfold f_X12_readIf
  refine zs_aload_n dX12_readIf_0 rfl 0 rfl ?_
  refine zs_iload_n dX12_readIf_1 rfl 1 rfl ?_
  refine zs_cV_iW (rest := []) (k_X12_goesIn hN _ _) dX12_readIf_2 lv_X12_176 ok_X12_goesIn (zz_rcv_o (shm_0 hN) rfl) (by omega) rfl rfl (Nat.le_of_ble_eq_true rfl) (fun r1 m2 => ?_)
  refine zs_if_ne (tgt := 9) dX12_readIf_5 (by decide) ?_ ?_
  · refine zs_aload_n dX12_readIf_9 rfl 0 rfl ?_
    refine zs_iload_n dX12_readIf_10 rfl 1 rfl ?_
    refine zs_iconst (v := (1 : Int32)) dX12_readIf_11 ci_1 ?_
    refine zs_iadd dX12_readIf_12 ?_
    refine zs_cV_vW (rest := []) (hg4 _ _) dX12_readIf_13 lv_X12_188 ok_X12_readTruth (zz_rcv_o (shm_0 hN) rfl) (Nat.le_refl _) rfl rfl (Nat.le_of_ble_eq_true rfl) (fun m3 => ?_)
    refine zs_aload_n dX12_readIf_16 rfl 0 rfl ?_
    refine zs_bipush (v := (16 : Int32)) dX12_readIf_17 cb_16 ?_
    refine zs_cV_iW (rest := []) (k_X12_eats hN _ _) dX12_readIf_19 lv_X12_182 ok_X12_eats (zz_rcv_o (shm_0 hN) rfl) (by omega) rfl rfl (Nat.le_of_ble_eq_true rfl) (fun r4 m5 => ?_)
    refine zs_if_ne (tgt := 30) dX12_readIf_22 (by decide) ?_ ?_
    · exact t_X12_readIf_30 hN hd0 hg0 hg4 _ _
    · refine zs_aload_n dX12_readIf_25 rfl 0 rfl ?_
      refine zs_iconst (v := (2 : Int32)) dX12_readIf_26 ci_2 ?_
      refine zs_cV_vW (rest := []) (k_X12_fails hN _ _) dX12_readIf_27 lv_X12_159 ok_X12_fails (zz_rcv_o (shm_0 hN) rfl) (by omega) rfl rfl (Nat.le_of_ble_eq_true rfl) (fun m6 => ?_)
      exact t_X12_readIf_30 hN hd0 hg0 hg4 _ _
  · exact zs_vret dX12_readIf_8 rfl rfl rfl
/-! X12_readTruth: PillarDeskModel.readTruth(I)V -/
theorem dX12_readTruth_0 : decode cX12_readTruth 0 = .ok (.aload_n 0, 1) := by decide +kernel
theorem dX12_readTruth_1 : decode cX12_readTruth 1 = .ok (.iload_n 1, 1) := by decide +kernel
theorem dX12_readTruth_2 : decode cX12_readTruth 2 = .ok (.invokevirtual 200, 3) := by decide +kernel
theorem dX12_readTruth_5 : decode cX12_readTruth 5 = .ok (.aload_n 0, 1) := by decide +kernel
theorem dX12_readTruth_6 : decode cX12_readTruth 6 = .ok (.bipush 26, 2) := by decide +kernel
theorem dX12_readTruth_8 : decode cX12_readTruth 8 = .ok (.invokevirtual 182, 3) := by decide +kernel
theorem dX12_readTruth_11 : decode cX12_readTruth 11 = .ok (.ifCond .eq 18, 3) := by decide +kernel
theorem dX12_readTruth_14 : decode cX12_readTruth 14 = .ok (.aload_n 0, 1) := by decide +kernel
theorem dX12_readTruth_15 : decode cX12_readTruth 15 = .ok (.iload_n 1, 1) := by decide +kernel
theorem dX12_readTruth_16 : decode cX12_readTruth 16 = .ok (.invokevirtual 200, 3) := by decide +kernel
theorem dX12_readTruth_19 : decode cX12_readTruth 19 = .ok (.aload_n 0, 1) := by decide +kernel
theorem dX12_readTruth_20 : decode cX12_readTruth 20 = .ok (.sipush 3008, 3) := by decide +kernel
theorem dX12_readTruth_23 : decode cX12_readTruth 23 = .ok (.invokevirtual 170, 3) := by decide +kernel
theorem dX12_readTruth_26 : decode cX12_readTruth 26 = .ok (.goto (-21), 3) := by decide +kernel
theorem dX12_readTruth_29 : decode cX12_readTruth 29 = .ok (.return_, 1) := by decide +kernel
def f_X12_readTruth_5 (g : Nat → Int32 → zz_Mem → Option zz_Mem)  : Nat → Int32 → zz_Mem → Option zz_Mem
  | 0, _, _ => none
  | n + 1, v1, m =>
  zz_bnd (f_X12_eats (26 : Int32) m) fun r1 m2 =>
  if r1 = 0 then (
  some m2)
  else (
  zz_bndR (g 5 v1 m2) fun m3 =>
  zz_bndR (f_X12_codes (3008 : Int32) m3) fun m4 =>
  f_X12_readTruth_5 g n v1 m4)
theorem t_X12_readTruth_5 {l : Launch} {G : zz_G} (hN : 26 ≤ zz_N G) {g : Nat → Int32 → zz_Mem → Option zz_Mem} {d : Nat} (hd0 : 7 ≤ d) (hg5 : ∀ (q1 : Int32) (m : zz_Mem), zz_Con zz_shM l G mX12_readBoth d [.ref (zz_a G 0), .int q1] zz_vV zz_mV (g 5 q1 m) m)  : ∀ (n : Nat) (v1 : Int32) (m : zz_Mem), zz_Sim zz_shM l G mX12_readTruth (d + 1) zz_vV zz_mV (f_X12_readTruth_5 g n v1 m) 5 [(0, .ref (zz_a G 0)), (1, .int v1)] [] m := by
  intro n
  induction n with
  | zero => intro _ _; exact zs_none
  | succ n ih =>
    intro v1 m
    rw [f_X12_readTruth_5]
    refine zs_aload_n dX12_readTruth_5 rfl 0 rfl ?_
    refine zs_bipush (v := (26 : Int32)) dX12_readTruth_6 cb_26 ?_
    refine zs_cV_iW (rest := []) (k_X12_eats hN _ _) dX12_readTruth_8 lv_X12_182 ok_X12_eats (zz_rcv_o (shm_0 hN) rfl) (by omega) rfl rfl (Nat.le_of_ble_eq_true rfl) (fun r1 m2 => ?_)
    refine zs_if_eq (tgt := 29) dX12_readTruth_11 (by decide) ?_ ?_
    · exact zs_vret dX12_readTruth_29 rfl rfl rfl
    · refine zs_aload_n dX12_readTruth_14 rfl 0 rfl ?_
      refine zs_iload_n dX12_readTruth_15 rfl 1 rfl ?_
      refine zs_cV_vW (rest := []) (hg5 _ _) dX12_readTruth_16 lv_X12_200 ok_X12_readBoth (zz_rcv_o (shm_0 hN) rfl) (Nat.le_refl _) rfl rfl (Nat.le_of_ble_eq_true rfl) (fun m3 => ?_)
      refine zs_aload_n dX12_readTruth_19 rfl 0 rfl ?_
      refine zs_sipush (v := (3008 : Int32)) dX12_readTruth_20 cs_3008 ?_
      refine zs_cV_vW (rest := []) (k_X12_codes hN _ _) dX12_readTruth_23 lv_X12_170 ok_X12_codes (zz_rcv_o (shm_0 hN) rfl) (by omega) rfl rfl (Nat.le_of_ble_eq_true rfl) (fun m4 => ?_)
      refine zs_goto (tgt := 5) dX12_readTruth_26 (by decide) ?_
      exact ih _ _
def f_X12_readTruth (g : Nat → Int32 → zz_Mem → Option zz_Mem) (p1 : Int32) (m : zz_Mem) : Option zz_Mem :=
  zz_bndR (g 5 p1 m) fun m1 =>
  f_X12_readTruth_5 g zz_fuel p1 m1
theorem k_X12_readTruth {l : Launch} {G : zz_G} (hN : 26 ≤ zz_N G) {g : Nat → Int32 → zz_Mem → Option zz_Mem} {d : Nat} (hd0 : 7 ≤ d) (hg5 : ∀ (q1 : Int32) (m : zz_Mem), zz_Con zz_shM l G mX12_readBoth d [.ref (zz_a G 0), .int q1] zz_vV zz_mV (g 5 q1 m) m) : ∀ (p1 : Int32) (m : zz_Mem), zz_Con zz_shM l G mX12_readTruth (d + 1) [.ref (zz_a G 0), .int p1] zz_vV zz_mV (f_X12_readTruth g p1 m) m := by
  intro p1 m
  refine zz_con (lv := [(0, .ref (zz_a G 0)), (1, .int p1)]) (by decide +kernel) (Nat.le_of_ble_eq_true rfl) rfl ?_
  unfold f_X12_readTruth
  refine zs_aload_n dX12_readTruth_0 rfl 0 rfl ?_
  refine zs_iload_n dX12_readTruth_1 rfl 1 rfl ?_
  refine zs_cV_vW (rest := []) (hg5 _ _) dX12_readTruth_2 lv_X12_200 ok_X12_readBoth (zz_rcv_o (shm_0 hN) rfl) (Nat.le_refl _) rfl rfl (Nat.le_of_ble_eq_true rfl) (fun m1 => ?_)
  exact t_X12_readTruth_5 hN hd0 hg5 zz_fuel _ _
/-! X12_readBoth: PillarDeskModel.readBoth(I)V -/
theorem dX12_readBoth_0 : decode cX12_readBoth 0 = .ok (.aload_n 0, 1) := by decide +kernel
theorem dX12_readBoth_1 : decode cX12_readBoth 1 = .ok (.iload_n 1, 1) := by decide +kernel
theorem dX12_readBoth_2 : decode cX12_readBoth 2 = .ok (.invokevirtual 197, 3) := by decide +kernel
theorem dX12_readBoth_5 : decode cX12_readBoth 5 = .ok (.aload_n 0, 1) := by decide +kernel
theorem dX12_readBoth_6 : decode cX12_readBoth 6 = .ok (.bipush 25, 2) := by decide +kernel
theorem dX12_readBoth_8 : decode cX12_readBoth 8 = .ok (.invokevirtual 182, 3) := by decide +kernel
theorem dX12_readBoth_11 : decode cX12_readBoth 11 = .ok (.ifCond .eq 18, 3) := by decide +kernel
theorem dX12_readBoth_14 : decode cX12_readBoth 14 = .ok (.aload_n 0, 1) := by decide +kernel
theorem dX12_readBoth_15 : decode cX12_readBoth 15 = .ok (.iload_n 1, 1) := by decide +kernel
theorem dX12_readBoth_16 : decode cX12_readBoth 16 = .ok (.invokevirtual 197, 3) := by decide +kernel
theorem dX12_readBoth_19 : decode cX12_readBoth 19 = .ok (.aload_n 0, 1) := by decide +kernel
theorem dX12_readBoth_20 : decode cX12_readBoth 20 = .ok (.sipush 3007, 3) := by decide +kernel
theorem dX12_readBoth_23 : decode cX12_readBoth 23 = .ok (.invokevirtual 170, 3) := by decide +kernel
theorem dX12_readBoth_26 : decode cX12_readBoth 26 = .ok (.goto (-21), 3) := by decide +kernel
theorem dX12_readBoth_29 : decode cX12_readBoth 29 = .ok (.return_, 1) := by decide +kernel
def f_X12_readBoth_5 (g : Nat → Int32 → zz_Mem → Option zz_Mem)  : Nat → Int32 → zz_Mem → Option zz_Mem
  | 0, _, _ => none
  | n + 1, v1, m =>
  zz_bnd (f_X12_eats (25 : Int32) m) fun r1 m2 =>
  if r1 = 0 then (
  some m2)
  else (
  zz_bndR (g 6 v1 m2) fun m3 =>
  zz_bndR (f_X12_codes (3007 : Int32) m3) fun m4 =>
  f_X12_readBoth_5 g n v1 m4)
theorem t_X12_readBoth_5 {l : Launch} {G : zz_G} (hN : 26 ≤ zz_N G) {g : Nat → Int32 → zz_Mem → Option zz_Mem} {d : Nat} (hd0 : 7 ≤ d) (hg6 : ∀ (q1 : Int32) (m : zz_Mem), zz_Con zz_shM l G mX12_readUnit d [.ref (zz_a G 0), .int q1] zz_vV zz_mV (g 6 q1 m) m)  : ∀ (n : Nat) (v1 : Int32) (m : zz_Mem), zz_Sim zz_shM l G mX12_readBoth (d + 1) zz_vV zz_mV (f_X12_readBoth_5 g n v1 m) 5 [(0, .ref (zz_a G 0)), (1, .int v1)] [] m := by
  intro n
  induction n with
  | zero => intro _ _; exact zs_none
  | succ n ih =>
    intro v1 m
    rw [f_X12_readBoth_5]
    refine zs_aload_n dX12_readBoth_5 rfl 0 rfl ?_
    refine zs_bipush (v := (25 : Int32)) dX12_readBoth_6 cb_25 ?_
    refine zs_cV_iW (rest := []) (k_X12_eats hN _ _) dX12_readBoth_8 lv_X12_182 ok_X12_eats (zz_rcv_o (shm_0 hN) rfl) (by omega) rfl rfl (Nat.le_of_ble_eq_true rfl) (fun r1 m2 => ?_)
    refine zs_if_eq (tgt := 29) dX12_readBoth_11 (by decide) ?_ ?_
    · exact zs_vret dX12_readBoth_29 rfl rfl rfl
    · refine zs_aload_n dX12_readBoth_14 rfl 0 rfl ?_
      refine zs_iload_n dX12_readBoth_15 rfl 1 rfl ?_
      refine zs_cV_vW (rest := []) (hg6 _ _) dX12_readBoth_16 lv_X12_197 ok_X12_readUnit (zz_rcv_o (shm_0 hN) rfl) (Nat.le_refl _) rfl rfl (Nat.le_of_ble_eq_true rfl) (fun m3 => ?_)
      refine zs_aload_n dX12_readBoth_19 rfl 0 rfl ?_
      refine zs_sipush (v := (3007 : Int32)) dX12_readBoth_20 cs_3007 ?_
      refine zs_cV_vW (rest := []) (k_X12_codes hN _ _) dX12_readBoth_23 lv_X12_170 ok_X12_codes (zz_rcv_o (shm_0 hN) rfl) (by omega) rfl rfl (Nat.le_of_ble_eq_true rfl) (fun m4 => ?_)
      refine zs_goto (tgt := 5) dX12_readBoth_26 (by decide) ?_
      exact ih _ _
def f_X12_readBoth (g : Nat → Int32 → zz_Mem → Option zz_Mem) (p1 : Int32) (m : zz_Mem) : Option zz_Mem :=
  zz_bndR (g 6 p1 m) fun m1 =>
  f_X12_readBoth_5 g zz_fuel p1 m1
theorem k_X12_readBoth {l : Launch} {G : zz_G} (hN : 26 ≤ zz_N G) {g : Nat → Int32 → zz_Mem → Option zz_Mem} {d : Nat} (hd0 : 7 ≤ d) (hg6 : ∀ (q1 : Int32) (m : zz_Mem), zz_Con zz_shM l G mX12_readUnit d [.ref (zz_a G 0), .int q1] zz_vV zz_mV (g 6 q1 m) m) : ∀ (p1 : Int32) (m : zz_Mem), zz_Con zz_shM l G mX12_readBoth (d + 1) [.ref (zz_a G 0), .int p1] zz_vV zz_mV (f_X12_readBoth g p1 m) m := by
  intro p1 m
  refine zz_con (lv := [(0, .ref (zz_a G 0)), (1, .int p1)]) (by decide +kernel) (Nat.le_of_ble_eq_true rfl) rfl ?_
  unfold f_X12_readBoth
  refine zs_aload_n dX12_readBoth_0 rfl 0 rfl ?_
  refine zs_iload_n dX12_readBoth_1 rfl 1 rfl ?_
  refine zs_cV_vW (rest := []) (hg6 _ _) dX12_readBoth_2 lv_X12_197 ok_X12_readUnit (zz_rcv_o (shm_0 hN) rfl) (Nat.le_refl _) rfl rfl (Nat.le_of_ble_eq_true rfl) (fun m1 => ?_)
  exact t_X12_readBoth_5 hN hd0 hg6 zz_fuel _ _
/-! X12_readUnit: PillarDeskModel.readUnit(I)V -/
theorem dX12_readUnit_0 : decode cX12_readUnit 0 = .ok (.aload_n 0, 1) := by decide +kernel
theorem dX12_readUnit_1 : decode cX12_readUnit 1 = .ok (.bipush 27, 2) := by decide +kernel
theorem dX12_readUnit_3 : decode cX12_readUnit 3 = .ok (.invokevirtual 153, 3) := by decide +kernel
theorem dX12_readUnit_6 : decode cX12_readUnit 6 = .ok (.ifCond .eq 27, 3) := by decide +kernel
theorem dX12_readUnit_9 : decode cX12_readUnit 9 = .ok (.aload_n 0, 1) := by decide +kernel
theorem dX12_readUnit_10 : decode cX12_readUnit 10 = .ok (.iload_n 1, 1) := by decide +kernel
theorem dX12_readUnit_11 : decode cX12_readUnit 11 = .ok (.invokevirtual 176, 3) := by decide +kernel
theorem dX12_readUnit_14 : decode cX12_readUnit 14 = .ok (.ifCond .ne 4, 3) := by decide +kernel
theorem dX12_readUnit_17 : decode cX12_readUnit 17 = .ok (.return_, 1) := by decide +kernel
theorem dX12_readUnit_18 : decode cX12_readUnit 18 = .ok (.aload_n 0, 1) := by decide +kernel
theorem dX12_readUnit_19 : decode cX12_readUnit 19 = .ok (.iload_n 1, 1) := by decide +kernel
theorem dX12_readUnit_20 : decode cX12_readUnit 20 = .ok (.iconst 1, 1) := by decide +kernel
theorem dX12_readUnit_21 : decode cX12_readUnit 21 = .ok (.iadd, 1) := by decide +kernel
theorem dX12_readUnit_22 : decode cX12_readUnit 22 = .ok (.invokevirtual 197, 3) := by decide +kernel
theorem dX12_readUnit_25 : decode cX12_readUnit 25 = .ok (.aload_n 0, 1) := by decide +kernel
theorem dX12_readUnit_26 : decode cX12_readUnit 26 = .ok (.sipush 3006, 3) := by decide +kernel
theorem dX12_readUnit_29 : decode cX12_readUnit 29 = .ok (.invokevirtual 170, 3) := by decide +kernel
theorem dX12_readUnit_32 : decode cX12_readUnit 32 = .ok (.return_, 1) := by decide +kernel
theorem dX12_readUnit_33 : decode cX12_readUnit 33 = .ok (.aload_n 0, 1) := by decide +kernel
theorem dX12_readUnit_34 : decode cX12_readUnit 34 = .ok (.bipush 39, 2) := by decide +kernel
theorem dX12_readUnit_36 : decode cX12_readUnit 36 = .ok (.invokevirtual 153, 3) := by decide +kernel
theorem dX12_readUnit_39 : decode cX12_readUnit 39 = .ok (.ifCond .eq 34, 3) := by decide +kernel
theorem dX12_readUnit_42 : decode cX12_readUnit 42 = .ok (.aload_n 0, 1) := by decide +kernel
theorem dX12_readUnit_43 : decode cX12_readUnit 43 = .ok (.iload_n 1, 1) := by decide +kernel
theorem dX12_readUnit_44 : decode cX12_readUnit 44 = .ok (.invokevirtual 176, 3) := by decide +kernel
theorem dX12_readUnit_47 : decode cX12_readUnit 47 = .ok (.ifCond .ne 4, 3) := by decide +kernel
theorem dX12_readUnit_50 : decode cX12_readUnit 50 = .ok (.return_, 1) := by decide +kernel
theorem dX12_readUnit_51 : decode cX12_readUnit 51 = .ok (.aload_n 0, 1) := by decide +kernel
theorem dX12_readUnit_52 : decode cX12_readUnit 52 = .ok (.iload_n 1, 1) := by decide +kernel
theorem dX12_readUnit_53 : decode cX12_readUnit 53 = .ok (.iconst 1, 1) := by decide +kernel
theorem dX12_readUnit_54 : decode cX12_readUnit 54 = .ok (.iadd, 1) := by decide +kernel
theorem dX12_readUnit_55 : decode cX12_readUnit 55 = .ok (.invokevirtual 188, 3) := by decide +kernel
theorem dX12_readUnit_58 : decode cX12_readUnit 58 = .ok (.aload_n 0, 1) := by decide +kernel
theorem dX12_readUnit_59 : decode cX12_readUnit 59 = .ok (.bipush 40, 2) := by decide +kernel
theorem dX12_readUnit_61 : decode cX12_readUnit 61 = .ok (.invokevirtual 182, 3) := by decide +kernel
theorem dX12_readUnit_64 : decode cX12_readUnit 64 = .ok (.ifCond .ne 8, 3) := by decide +kernel
theorem dX12_readUnit_67 : decode cX12_readUnit 67 = .ok (.aload_n 0, 1) := by decide +kernel
theorem dX12_readUnit_68 : decode cX12_readUnit 68 = .ok (.iconst 2, 1) := by decide +kernel
theorem dX12_readUnit_69 : decode cX12_readUnit 69 = .ok (.invokevirtual 159, 3) := by decide +kernel
theorem dX12_readUnit_72 : decode cX12_readUnit 72 = .ok (.return_, 1) := by decide +kernel
theorem dX12_readUnit_73 : decode cX12_readUnit 73 = .ok (.aload_n 0, 1) := by decide +kernel
theorem dX12_readUnit_74 : decode cX12_readUnit 74 = .ok (.iload_n 1, 1) := by decide +kernel
theorem dX12_readUnit_75 : decode cX12_readUnit 75 = .ok (.invokevirtual 179, 3) := by decide +kernel
theorem dX12_readUnit_78 : decode cX12_readUnit 78 = .ok (.aload_n 0, 1) := by decide +kernel
theorem dX12_readUnit_79 : decode cX12_readUnit 79 = .ok (.bipush 41, 2) := by decide +kernel
theorem dX12_readUnit_81 : decode cX12_readUnit 81 = .ok (.invokevirtual 153, 3) := by decide +kernel
theorem dX12_readUnit_84 : decode cX12_readUnit 84 = .ok (.ifCond .eq 9, 3) := by decide +kernel
theorem dX12_readUnit_87 : decode cX12_readUnit 87 = .ok (.sipush 3003, 3) := by decide +kernel
theorem dX12_readUnit_90 : decode cX12_readUnit 90 = .ok (.goto 21, 3) := by decide +kernel
theorem dX12_readUnit_93 : decode cX12_readUnit 93 = .ok (.aload_n 0, 1) := by decide +kernel
theorem dX12_readUnit_94 : decode cX12_readUnit 94 = .ok (.bipush 42, 2) := by decide +kernel
theorem dX12_readUnit_96 : decode cX12_readUnit 96 = .ok (.invokevirtual 153, 3) := by decide +kernel
theorem dX12_readUnit_99 : decode cX12_readUnit 99 = .ok (.ifCond .eq 9, 3) := by decide +kernel
theorem dX12_readUnit_102 : decode cX12_readUnit 102 = .ok (.sipush 3004, 3) := by decide +kernel
theorem dX12_readUnit_105 : decode cX12_readUnit 105 = .ok (.goto 6, 3) := by decide +kernel
theorem dX12_readUnit_108 : decode cX12_readUnit 108 = .ok (.sipush 3005, 3) := by decide +kernel
theorem dX12_readUnit_111 : decode cX12_readUnit 111 = .ok (.istore_n 2, 1) := by decide +kernel
theorem dX12_readUnit_112 : decode cX12_readUnit 112 = .ok (.aload_n 0, 1) := by decide +kernel
theorem dX12_readUnit_113 : decode cX12_readUnit 113 = .ok (.bipush 41, 2) := by decide +kernel
theorem dX12_readUnit_115 : decode cX12_readUnit 115 = .ok (.invokevirtual 153, 3) := by decide +kernel
theorem dX12_readUnit_118 : decode cX12_readUnit 118 = .ok (.ifCond .ne 21, 3) := by decide +kernel
theorem dX12_readUnit_121 : decode cX12_readUnit 121 = .ok (.aload_n 0, 1) := by decide +kernel
theorem dX12_readUnit_122 : decode cX12_readUnit 122 = .ok (.bipush 42, 2) := by decide +kernel
theorem dX12_readUnit_124 : decode cX12_readUnit 124 = .ok (.invokevirtual 153, 3) := by decide +kernel
theorem dX12_readUnit_127 : decode cX12_readUnit 127 = .ok (.ifCond .ne 12, 3) := by decide +kernel
theorem dX12_readUnit_130 : decode cX12_readUnit 130 = .ok (.aload_n 0, 1) := by decide +kernel
theorem dX12_readUnit_131 : decode cX12_readUnit 131 = .ok (.bipush 43, 2) := by decide +kernel
theorem dX12_readUnit_133 : decode cX12_readUnit 133 = .ok (.invokevirtual 153, 3) := by decide +kernel
theorem dX12_readUnit_136 : decode cX12_readUnit 136 = .ok (.ifCond .eq 10, 3) := by decide +kernel
theorem dX12_readUnit_139 : decode cX12_readUnit 139 = .ok (.aload_n 0, 1) := by decide +kernel
theorem dX12_readUnit_140 : decode cX12_readUnit 140 = .ok (.invokevirtual 156, 3) := by decide +kernel
theorem dX12_readUnit_143 : decode cX12_readUnit 143 = .ok (.goto 8, 3) := by decide +kernel
theorem dX12_readUnit_146 : decode cX12_readUnit 146 = .ok (.aload_n 0, 1) := by decide +kernel
theorem dX12_readUnit_147 : decode cX12_readUnit 147 = .ok (.iconst 2, 1) := by decide +kernel
theorem dX12_readUnit_148 : decode cX12_readUnit 148 = .ok (.invokevirtual 159, 3) := by decide +kernel
theorem dX12_readUnit_151 : decode cX12_readUnit 151 = .ok (.aload_n 0, 1) := by decide +kernel
theorem dX12_readUnit_152 : decode cX12_readUnit 152 = .ok (.iload_n 1, 1) := by decide +kernel
theorem dX12_readUnit_153 : decode cX12_readUnit 153 = .ok (.invokevirtual 179, 3) := by decide +kernel
theorem dX12_readUnit_156 : decode cX12_readUnit 156 = .ok (.aload_n 0, 1) := by decide +kernel
theorem dX12_readUnit_157 : decode cX12_readUnit 157 = .ok (.iload_n 2, 1) := by decide +kernel
theorem dX12_readUnit_158 : decode cX12_readUnit 158 = .ok (.invokevirtual 170, 3) := by decide +kernel
theorem dX12_readUnit_161 : decode cX12_readUnit 161 = .ok (.return_, 1) := by decide +kernel
def f_X12_readUnit_151 (g : Nat → Int32 → zz_Mem → Option zz_Mem)  (v1 : Int32) (v2 : Int32) (m : zz_Mem) : Option zz_Mem :=
  zz_bndR (g 0 v1 m) fun m1 =>
  zz_bndR (f_X12_codes v2 m1) fun m2 =>
  some m2
theorem t_X12_readUnit_151 {l : Launch} {G : zz_G} (hN : 26 ≤ zz_N G) {g : Nat → Int32 → zz_Mem → Option zz_Mem} {d : Nat} (hd0 : 7 ≤ d) (hg0 : ∀ (q1 : Int32) (m : zz_Mem), zz_Con zz_shM l G mX12_readSum d [.ref (zz_a G 0), .int q1] zz_vV zz_mV (g 0 q1 m) m) (hg4 : ∀ (q1 : Int32) (m : zz_Mem), zz_Con zz_shM l G mX12_readTruth d [.ref (zz_a G 0), .int q1] zz_vV zz_mV (g 4 q1 m) m) (hg6 : ∀ (q1 : Int32) (m : zz_Mem), zz_Con zz_shM l G mX12_readUnit d [.ref (zz_a G 0), .int q1] zz_vV zz_mV (g 6 q1 m) m)  : ∀ (v1 : Int32) (v2 : Int32) (m : zz_Mem), zz_Sim zz_shM l G mX12_readUnit (d + 1) zz_vV zz_mV (f_X12_readUnit_151 g v1 v2 m) 151 [(0, .ref (zz_a G 0)), (1, .int v1), (2, .int v2)] [] m := by
  intro v1 v2 m
  unfold f_X12_readUnit_151
  refine zs_aload_n dX12_readUnit_151 rfl 0 rfl ?_
  refine zs_iload_n dX12_readUnit_152 rfl 1 rfl ?_
  refine zs_cV_vW (rest := []) (hg0 _ _) dX12_readUnit_153 lv_X12_179 ok_X12_readSum (zz_rcv_o (shm_0 hN) rfl) (Nat.le_refl _) rfl rfl (Nat.le_of_ble_eq_true rfl) (fun m1 => ?_)
  refine zs_aload_n dX12_readUnit_156 rfl 0 rfl ?_
  refine zs_iload_n dX12_readUnit_157 rfl 2 rfl ?_
  refine zs_cV_vW (rest := []) (k_X12_codes hN _ _) dX12_readUnit_158 lv_X12_170 ok_X12_codes (zz_rcv_o (shm_0 hN) rfl) (by omega) rfl rfl (Nat.le_of_ble_eq_true rfl) (fun m2 => ?_)
  exact zs_vret dX12_readUnit_161 rfl rfl rfl
def f_X12_readUnit_139 (g : Nat → Int32 → zz_Mem → Option zz_Mem)  (v1 : Int32) (v2 : Int32) (m : zz_Mem) : Option zz_Mem :=
  zz_bndR (f_X12_next m) fun m1 =>
  f_X12_readUnit_151 g v1 v2 m1
theorem t_X12_readUnit_139 {l : Launch} {G : zz_G} (hN : 26 ≤ zz_N G) {g : Nat → Int32 → zz_Mem → Option zz_Mem} {d : Nat} (hd0 : 7 ≤ d) (hg0 : ∀ (q1 : Int32) (m : zz_Mem), zz_Con zz_shM l G mX12_readSum d [.ref (zz_a G 0), .int q1] zz_vV zz_mV (g 0 q1 m) m) (hg4 : ∀ (q1 : Int32) (m : zz_Mem), zz_Con zz_shM l G mX12_readTruth d [.ref (zz_a G 0), .int q1] zz_vV zz_mV (g 4 q1 m) m) (hg6 : ∀ (q1 : Int32) (m : zz_Mem), zz_Con zz_shM l G mX12_readUnit d [.ref (zz_a G 0), .int q1] zz_vV zz_mV (g 6 q1 m) m)  : ∀ (v1 : Int32) (v2 : Int32) (m : zz_Mem), zz_Sim zz_shM l G mX12_readUnit (d + 1) zz_vV zz_mV (f_X12_readUnit_139 g v1 v2 m) 139 [(0, .ref (zz_a G 0)), (1, .int v1), (2, .int v2)] [] m := by
  intro v1 v2 m
  unfold f_X12_readUnit_139
  refine zs_aload_n dX12_readUnit_139 rfl 0 rfl ?_
  refine zs_cV_vW (rest := []) (k_X12_next hN  _) dX12_readUnit_140 lv_X12_156 ok_X12_next (zz_rcv_o (shm_0 hN) rfl) (by omega) rfl rfl (Nat.le_of_ble_eq_true rfl) (fun m1 => ?_)
  refine zs_goto (tgt := 151) dX12_readUnit_143 (by decide) ?_
  exact t_X12_readUnit_151 hN hd0 hg0 hg4 hg6 _ _ _
def f_X12_readUnit_111 (g : Nat → Int32 → zz_Mem → Option zz_Mem)  (v1 : Int32) (s0 : Int32) (m : zz_Mem) : Option zz_Mem :=
  zz_bndR (f_X12_is m (41 : Int32)) fun r1 =>
  if r1 = 0 then (
  zz_bndR (f_X12_is m (42 : Int32)) fun r2 =>
  if r2 = 0 then (
  zz_bndR (f_X12_is m (43 : Int32)) fun r3 =>
  if r3 = 0 then (
  zz_bndR (f_X12_fails (2 : Int32) m) fun m4 =>
  f_X12_readUnit_151 g v1 s0 m4)
  else (
  f_X12_readUnit_139 g v1 s0 m))
  else (
  f_X12_readUnit_139 g v1 s0 m))
  else (
  f_X12_readUnit_139 g v1 s0 m)
theorem t_X12_readUnit_111 {l : Launch} {G : zz_G} (hN : 26 ≤ zz_N G) {g : Nat → Int32 → zz_Mem → Option zz_Mem} {d : Nat} (hd0 : 7 ≤ d) (hg0 : ∀ (q1 : Int32) (m : zz_Mem), zz_Con zz_shM l G mX12_readSum d [.ref (zz_a G 0), .int q1] zz_vV zz_mV (g 0 q1 m) m) (hg4 : ∀ (q1 : Int32) (m : zz_Mem), zz_Con zz_shM l G mX12_readTruth d [.ref (zz_a G 0), .int q1] zz_vV zz_mV (g 4 q1 m) m) (hg6 : ∀ (q1 : Int32) (m : zz_Mem), zz_Con zz_shM l G mX12_readUnit d [.ref (zz_a G 0), .int q1] zz_vV zz_mV (g 6 q1 m) m)  : ∀ (v1 : Int32) (s0 : Int32) (m : zz_Mem), zz_Sim zz_shM l G mX12_readUnit (d + 1) zz_vV zz_mV (f_X12_readUnit_111 g v1 s0 m) 111 [(0, .ref (zz_a G 0)), (1, .int v1)] [.int s0] m := by
  intro v1 s0 m
  unfold f_X12_readUnit_111
  refine zs_istore_n [(2, .int s0), (0, .ref (zz_a G 0)), (1, .int v1)] dX12_readUnit_111 rfl (Nat.le_of_ble_eq_true rfl) rfl ?_
  refine zs_aload_n dX12_readUnit_112 rfl 1 rfl ?_
  refine zs_bipush (v := (41 : Int32)) dX12_readUnit_113 cb_41 ?_
  refine zs_cV_iR (rest := []) (k_X12_is hN _ _) dX12_readUnit_115 lv_X12_153 ok_X12_is (zz_rcv_o (shm_0 hN) rfl) (by omega) rfl rfl (Nat.le_of_ble_eq_true rfl) (fun r1 => ?_)
  refine zs_if_ne (tgt := 139) dX12_readUnit_118 (by decide) ?_ ?_
  · refine zs_sub [1, 2, 0] rfl ?_
    exact t_X12_readUnit_139 hN hd0 hg0 hg4 hg6 _ _ _
  · refine zs_aload_n dX12_readUnit_121 rfl 1 rfl ?_
    refine zs_bipush (v := (42 : Int32)) dX12_readUnit_122 cb_42 ?_
    refine zs_cV_iR (rest := []) (k_X12_is hN _ _) dX12_readUnit_124 lv_X12_153 ok_X12_is (zz_rcv_o (shm_0 hN) rfl) (by omega) rfl rfl (Nat.le_of_ble_eq_true rfl) (fun r2 => ?_)
    refine zs_if_ne (tgt := 139) dX12_readUnit_127 (by decide) ?_ ?_
    · refine zs_sub [1, 2, 0] rfl ?_
      exact t_X12_readUnit_139 hN hd0 hg0 hg4 hg6 _ _ _
    · refine zs_aload_n dX12_readUnit_130 rfl 1 rfl ?_
      refine zs_bipush (v := (43 : Int32)) dX12_readUnit_131 cb_43 ?_
      refine zs_cV_iR (rest := []) (k_X12_is hN _ _) dX12_readUnit_133 lv_X12_153 ok_X12_is (zz_rcv_o (shm_0 hN) rfl) (by omega) rfl rfl (Nat.le_of_ble_eq_true rfl) (fun r3 => ?_)
      refine zs_if_eq (tgt := 146) dX12_readUnit_136 (by decide) ?_ ?_
      · refine zs_aload_n dX12_readUnit_146 rfl 1 rfl ?_
        refine zs_iconst (v := (2 : Int32)) dX12_readUnit_147 ci_2 ?_
        refine zs_cV_vW (rest := []) (k_X12_fails hN _ _) dX12_readUnit_148 lv_X12_159 ok_X12_fails (zz_rcv_o (shm_0 hN) rfl) (by omega) rfl rfl (Nat.le_of_ble_eq_true rfl) (fun m4 => ?_)
        refine zs_sub [1, 2, 0] rfl ?_
        exact t_X12_readUnit_151 hN hd0 hg0 hg4 hg6 _ _ _
      · refine zs_sub [1, 2, 0] rfl ?_
        exact t_X12_readUnit_139 hN hd0 hg0 hg4 hg6 _ _ _
def f_X12_readUnit (g : Nat → Int32 → zz_Mem → Option zz_Mem) (p1 : Int32) (m : zz_Mem) : Option zz_Mem :=
  zz_bndR (f_X12_is m (27 : Int32)) fun r1 =>
  if r1 = 0 then (
  zz_bndR (f_X12_is m (39 : Int32)) fun r2 =>
  if r2 = 0 then (
  zz_bndR (g 0 p1 m) fun m3 =>
  zz_bndR (f_X12_is m3 (41 : Int32)) fun r4 =>
  if r4 = 0 then (
  zz_bndR (f_X12_is m3 (42 : Int32)) fun r5 =>
  if r5 = 0 then (
  f_X12_readUnit_111 g p1 (3005 : Int32) m3)
  else (
  f_X12_readUnit_111 g p1 (3004 : Int32) m3))
  else (
  f_X12_readUnit_111 g p1 (3003 : Int32) m3))
  else (
  zz_bnd (f_X12_goesIn p1 m) fun r6 m7 =>
  if r6 = 0 then (
  some m7)
  else (
  zz_bndR (g 4 (p1 + (1 : Int32)) m7) fun m8 =>
  zz_bnd (f_X12_eats (40 : Int32) m8) fun r9 m10 =>
  if r9 = 0 then (
  zz_bndR (f_X12_fails (2 : Int32) m10) fun m11 =>
  some m11)
  else (
  some m10))))
  else (
  zz_bnd (f_X12_goesIn p1 m) fun r12 m13 =>
  if r12 = 0 then (
  some m13)
  else (
  zz_bndR (g 6 (p1 + (1 : Int32)) m13) fun m14 =>
  zz_bndR (f_X12_codes (3006 : Int32) m14) fun m15 =>
  some m15))
theorem k_X12_readUnit {l : Launch} {G : zz_G} (hN : 26 ≤ zz_N G) {g : Nat → Int32 → zz_Mem → Option zz_Mem} {d : Nat} (hd0 : 7 ≤ d) (hg0 : ∀ (q1 : Int32) (m : zz_Mem), zz_Con zz_shM l G mX12_readSum d [.ref (zz_a G 0), .int q1] zz_vV zz_mV (g 0 q1 m) m) (hg4 : ∀ (q1 : Int32) (m : zz_Mem), zz_Con zz_shM l G mX12_readTruth d [.ref (zz_a G 0), .int q1] zz_vV zz_mV (g 4 q1 m) m) (hg6 : ∀ (q1 : Int32) (m : zz_Mem), zz_Con zz_shM l G mX12_readUnit d [.ref (zz_a G 0), .int q1] zz_vV zz_mV (g 6 q1 m) m) : ∀ (p1 : Int32) (m : zz_Mem), zz_Con zz_shM l G mX12_readUnit (d + 1) [.ref (zz_a G 0), .int p1] zz_vV zz_mV (f_X12_readUnit g p1 m) m := by
  intro p1 m
  refine zz_con (lv := [(0, .ref (zz_a G 0)), (1, .int p1)]) (by decide +kernel) (Nat.le_of_ble_eq_true rfl) rfl ?_
  unfold f_X12_readUnit
  refine zs_aload_n dX12_readUnit_0 rfl 0 rfl ?_
  refine zs_bipush (v := (27 : Int32)) dX12_readUnit_1 cb_27 ?_
  refine zs_cV_iR (rest := []) (k_X12_is hN _ _) dX12_readUnit_3 lv_X12_153 ok_X12_is (zz_rcv_o (shm_0 hN) rfl) (by omega) rfl rfl (Nat.le_of_ble_eq_true rfl) (fun r1 => ?_)
  refine zs_if_eq (tgt := 33) dX12_readUnit_6 (by decide) ?_ ?_
  · refine zs_aload_n dX12_readUnit_33 rfl 0 rfl ?_
    refine zs_bipush (v := (39 : Int32)) dX12_readUnit_34 cb_39 ?_
    refine zs_cV_iR (rest := []) (k_X12_is hN _ _) dX12_readUnit_36 lv_X12_153 ok_X12_is (zz_rcv_o (shm_0 hN) rfl) (by omega) rfl rfl (Nat.le_of_ble_eq_true rfl) (fun r2 => ?_)
    refine zs_if_eq (tgt := 73) dX12_readUnit_39 (by decide) ?_ ?_
    · refine zs_aload_n dX12_readUnit_73 rfl 0 rfl ?_
      refine zs_iload_n dX12_readUnit_74 rfl 1 rfl ?_
      refine zs_cV_vW (rest := []) (hg0 _ _) dX12_readUnit_75 lv_X12_179 ok_X12_readSum (zz_rcv_o (shm_0 hN) rfl) (Nat.le_refl _) rfl rfl (Nat.le_of_ble_eq_true rfl) (fun m3 => ?_)
      refine zs_aload_n dX12_readUnit_78 rfl 0 rfl ?_
      refine zs_bipush (v := (41 : Int32)) dX12_readUnit_79 cb_41 ?_
      refine zs_cV_iR (rest := []) (k_X12_is hN _ _) dX12_readUnit_81 lv_X12_153 ok_X12_is (zz_rcv_o (shm_0 hN) rfl) (by omega) rfl rfl (Nat.le_of_ble_eq_true rfl) (fun r4 => ?_)
      refine zs_if_eq (tgt := 93) dX12_readUnit_84 (by decide) ?_ ?_
      · refine zs_aload_n dX12_readUnit_93 rfl 0 rfl ?_
        refine zs_bipush (v := (42 : Int32)) dX12_readUnit_94 cb_42 ?_
        refine zs_cV_iR (rest := []) (k_X12_is hN _ _) dX12_readUnit_96 lv_X12_153 ok_X12_is (zz_rcv_o (shm_0 hN) rfl) (by omega) rfl rfl (Nat.le_of_ble_eq_true rfl) (fun r5 => ?_)
        refine zs_if_eq (tgt := 108) dX12_readUnit_99 (by decide) ?_ ?_
        · refine zs_sipush (v := (3005 : Int32)) dX12_readUnit_108 cs_3005 ?_
          exact t_X12_readUnit_111 hN hd0 hg0 hg4 hg6 _ _ _
        · refine zs_sipush (v := (3004 : Int32)) dX12_readUnit_102 cs_3004 ?_
          refine zs_goto (tgt := 111) dX12_readUnit_105 (by decide) ?_
          exact t_X12_readUnit_111 hN hd0 hg0 hg4 hg6 _ _ _
      · refine zs_sipush (v := (3003 : Int32)) dX12_readUnit_87 cs_3003 ?_
        refine zs_goto (tgt := 111) dX12_readUnit_90 (by decide) ?_
        exact t_X12_readUnit_111 hN hd0 hg0 hg4 hg6 _ _ _
    · refine zs_aload_n dX12_readUnit_42 rfl 0 rfl ?_
      refine zs_iload_n dX12_readUnit_43 rfl 1 rfl ?_
      refine zs_cV_iW (rest := []) (k_X12_goesIn hN _ _) dX12_readUnit_44 lv_X12_176 ok_X12_goesIn (zz_rcv_o (shm_0 hN) rfl) (by omega) rfl rfl (Nat.le_of_ble_eq_true rfl) (fun r6 m7 => ?_)
      refine zs_if_ne (tgt := 51) dX12_readUnit_47 (by decide) ?_ ?_
      · refine zs_aload_n dX12_readUnit_51 rfl 0 rfl ?_
        refine zs_iload_n dX12_readUnit_52 rfl 1 rfl ?_
        refine zs_iconst (v := (1 : Int32)) dX12_readUnit_53 ci_1 ?_
        refine zs_iadd dX12_readUnit_54 ?_
        refine zs_cV_vW (rest := []) (hg4 _ _) dX12_readUnit_55 lv_X12_188 ok_X12_readTruth (zz_rcv_o (shm_0 hN) rfl) (Nat.le_refl _) rfl rfl (Nat.le_of_ble_eq_true rfl) (fun m8 => ?_)
        refine zs_aload_n dX12_readUnit_58 rfl 0 rfl ?_
        refine zs_bipush (v := (40 : Int32)) dX12_readUnit_59 cb_40 ?_
        refine zs_cV_iW (rest := []) (k_X12_eats hN _ _) dX12_readUnit_61 lv_X12_182 ok_X12_eats (zz_rcv_o (shm_0 hN) rfl) (by omega) rfl rfl (Nat.le_of_ble_eq_true rfl) (fun r9 m10 => ?_)
        refine zs_if_ne (tgt := 72) dX12_readUnit_64 (by decide) ?_ ?_
        · exact zs_vret dX12_readUnit_72 rfl rfl rfl
        · refine zs_aload_n dX12_readUnit_67 rfl 0 rfl ?_
          refine zs_iconst (v := (2 : Int32)) dX12_readUnit_68 ci_2 ?_
          refine zs_cV_vW (rest := []) (k_X12_fails hN _ _) dX12_readUnit_69 lv_X12_159 ok_X12_fails (zz_rcv_o (shm_0 hN) rfl) (by omega) rfl rfl (Nat.le_of_ble_eq_true rfl) (fun m11 => ?_)
          exact zs_vret dX12_readUnit_72 rfl rfl rfl
      · exact zs_vret dX12_readUnit_50 rfl rfl rfl
  · refine zs_aload_n dX12_readUnit_9 rfl 0 rfl ?_
    refine zs_iload_n dX12_readUnit_10 rfl 1 rfl ?_
    refine zs_cV_iW (rest := []) (k_X12_goesIn hN _ _) dX12_readUnit_11 lv_X12_176 ok_X12_goesIn (zz_rcv_o (shm_0 hN) rfl) (by omega) rfl rfl (Nat.le_of_ble_eq_true rfl) (fun r12 m13 => ?_)
    refine zs_if_ne (tgt := 18) dX12_readUnit_14 (by decide) ?_ ?_
    · refine zs_aload_n dX12_readUnit_18 rfl 0 rfl ?_
      refine zs_iload_n dX12_readUnit_19 rfl 1 rfl ?_
      refine zs_iconst (v := (1 : Int32)) dX12_readUnit_20 ci_1 ?_
      refine zs_iadd dX12_readUnit_21 ?_
      refine zs_cV_vW (rest := []) (hg6 _ _) dX12_readUnit_22 lv_X12_197 ok_X12_readUnit (zz_rcv_o (shm_0 hN) rfl) (Nat.le_refl _) rfl rfl (Nat.le_of_ble_eq_true rfl) (fun m14 => ?_)
      refine zs_aload_n dX12_readUnit_25 rfl 0 rfl ?_
      refine zs_sipush (v := (3006 : Int32)) dX12_readUnit_26 cs_3006 ?_
      refine zs_cV_vW (rest := []) (k_X12_codes hN _ _) dX12_readUnit_29 lv_X12_170 ok_X12_codes (zz_rcv_o (shm_0 hN) rfl) (by omega) rfl rfl (Nat.le_of_ble_eq_true rfl) (fun m15 => ?_)
      exact zs_vret dX12_readUnit_32 rfl rfl rfl
    · exact zs_vret dX12_readUnit_17 rfl rfl rfl
def grp_X12 : Nat → Nat → Int32 → zz_Mem → Option zz_Mem
  | 0 => fun _ _ _ => none
  | n + 1 => fun i => match i with
    | 0 => f_X12_readSum (grp_X12 n)
    | 1 => f_X12_readTerm (grp_X12 n)
    | 2 => f_X12_readAtom (grp_X12 n)
    | 3 => f_X12_readIf (grp_X12 n)
    | 4 => f_X12_readTruth (grp_X12 n)
    | 5 => f_X12_readBoth (grp_X12 n)
    | _ => f_X12_readUnit (grp_X12 n)
theorem grp_X12_ok {l : Launch} {G : zz_G} (hN : 26 ≤ zz_N G) : ∀ n : Nat, (∀ (q1 : Int32) (m : zz_Mem), zz_Con zz_shM l G mX12_readSum (7 + n) [.ref (zz_a G 0), .int q1] zz_vV zz_mV (grp_X12 n 0 q1 m) m) ∧ (∀ (q1 : Int32) (m : zz_Mem), zz_Con zz_shM l G mX12_readTerm (7 + n) [.ref (zz_a G 0), .int q1] zz_vV zz_mV (grp_X12 n 1 q1 m) m) ∧ (∀ (q1 : Int32) (m : zz_Mem), zz_Con zz_shM l G mX12_readAtom (7 + n) [.ref (zz_a G 0), .int q1] zz_vV zz_mV (grp_X12 n 2 q1 m) m) ∧ (∀ (q1 : Int32) (m : zz_Mem), zz_Con zz_shM l G mX12_readIf (7 + n) [.ref (zz_a G 0), .int q1] zz_vV zz_mV (grp_X12 n 3 q1 m) m) ∧ (∀ (q1 : Int32) (m : zz_Mem), zz_Con zz_shM l G mX12_readTruth (7 + n) [.ref (zz_a G 0), .int q1] zz_vV zz_mV (grp_X12 n 4 q1 m) m) ∧ (∀ (q1 : Int32) (m : zz_Mem), zz_Con zz_shM l G mX12_readBoth (7 + n) [.ref (zz_a G 0), .int q1] zz_vV zz_mV (grp_X12 n 5 q1 m) m) ∧ (∀ (q1 : Int32) (m : zz_Mem), zz_Con zz_shM l G mX12_readUnit (7 + n) [.ref (zz_a G 0), .int q1] zz_vV zz_mV (grp_X12 n 6 q1 m) m) := by
  intro n
  induction n with
  | zero => exact ⟨fun _ _ _ h => (by have h' : none = some _ := h; cases h'), fun _ _ _ h => (by have h' : none = some _ := h; cases h'), fun _ _ _ h => (by have h' : none = some _ := h; cases h'), fun _ _ _ h => (by have h' : none = some _ := h; cases h'), fun _ _ _ h => (by have h' : none = some _ := h; cases h'), fun _ _ _ h => (by have h' : none = some _ := h; cases h'), fun _ _ _ h => (by have h' : none = some _ := h; cases h')⟩
  | succ n ih =>
    exact ⟨k_X12_readSum hN (Nat.le_add_right _ _) (ih.2.1), k_X12_readTerm hN (Nat.le_add_right _ _) (ih.2.2.1), k_X12_readAtom hN (Nat.le_add_right _ _) (ih.1) (ih.2.2.2.1), k_X12_readIf hN (Nat.le_add_right _ _) (ih.1) (ih.2.2.2.2.1), k_X12_readTruth hN (Nat.le_add_right _ _) (ih.2.2.2.2.2.1), k_X12_readBoth hN (Nat.le_add_right _ _) (ih.2.2.2.2.2.2), k_X12_readUnit hN (Nat.le_add_right _ _) (ih.1) (ih.2.2.2.2.1) (ih.2.2.2.2.2.2)⟩
def F_X12_readSum (q1 : Int32) (m : zz_Mem) : Option zz_Mem := grp_X12 60 0 q1 m
theorem K_X12_readSum {l : Launch} {G : zz_G} (hN : 26 ≤ zz_N G) : ∀ (q1 : Int32) (m : zz_Mem), zz_Con zz_shM l G mX12_readSum 67 [.ref (zz_a G 0), .int q1] zz_vV zz_mV (F_X12_readSum q1 m) m := (grp_X12_ok hN 60).1
def F_X12_readTerm (q1 : Int32) (m : zz_Mem) : Option zz_Mem := grp_X12 60 1 q1 m
theorem K_X12_readTerm {l : Launch} {G : zz_G} (hN : 26 ≤ zz_N G) : ∀ (q1 : Int32) (m : zz_Mem), zz_Con zz_shM l G mX12_readTerm 67 [.ref (zz_a G 0), .int q1] zz_vV zz_mV (F_X12_readTerm q1 m) m := (grp_X12_ok hN 60).2.1
def F_X12_readAtom (q1 : Int32) (m : zz_Mem) : Option zz_Mem := grp_X12 60 2 q1 m
theorem K_X12_readAtom {l : Launch} {G : zz_G} (hN : 26 ≤ zz_N G) : ∀ (q1 : Int32) (m : zz_Mem), zz_Con zz_shM l G mX12_readAtom 67 [.ref (zz_a G 0), .int q1] zz_vV zz_mV (F_X12_readAtom q1 m) m := (grp_X12_ok hN 60).2.2.1
def F_X12_readIf (q1 : Int32) (m : zz_Mem) : Option zz_Mem := grp_X12 60 3 q1 m
theorem K_X12_readIf {l : Launch} {G : zz_G} (hN : 26 ≤ zz_N G) : ∀ (q1 : Int32) (m : zz_Mem), zz_Con zz_shM l G mX12_readIf 67 [.ref (zz_a G 0), .int q1] zz_vV zz_mV (F_X12_readIf q1 m) m := (grp_X12_ok hN 60).2.2.2.1
def F_X12_readTruth (q1 : Int32) (m : zz_Mem) : Option zz_Mem := grp_X12 60 4 q1 m
theorem K_X12_readTruth {l : Launch} {G : zz_G} (hN : 26 ≤ zz_N G) : ∀ (q1 : Int32) (m : zz_Mem), zz_Con zz_shM l G mX12_readTruth 67 [.ref (zz_a G 0), .int q1] zz_vV zz_mV (F_X12_readTruth q1 m) m := (grp_X12_ok hN 60).2.2.2.2.1
def F_X12_readBoth (q1 : Int32) (m : zz_Mem) : Option zz_Mem := grp_X12 60 5 q1 m
theorem K_X12_readBoth {l : Launch} {G : zz_G} (hN : 26 ≤ zz_N G) : ∀ (q1 : Int32) (m : zz_Mem), zz_Con zz_shM l G mX12_readBoth 67 [.ref (zz_a G 0), .int q1] zz_vV zz_mV (F_X12_readBoth q1 m) m := (grp_X12_ok hN 60).2.2.2.2.2.1
def F_X12_readUnit (q1 : Int32) (m : zz_Mem) : Option zz_Mem := grp_X12 60 6 q1 m
theorem K_X12_readUnit {l : Launch} {G : zz_G} (hN : 26 ≤ zz_N G) : ∀ (q1 : Int32) (m : zz_Mem), zz_Con zz_shM l G mX12_readUnit 67 [.ref (zz_a G 0), .int q1] zz_vV zz_mV (F_X12_readUnit q1 m) m := (grp_X12_ok hN 60).2.2.2.2.2.2
/-! X12_named: PillarDeskModel.named(III)I -/
theorem dX12_named_0 : decode cX12_named 0 = .ok (.aload_n 0, 1) := by decide +kernel
theorem dX12_named_1 : decode cX12_named 1 = .ok (.iload_n 1, 1) := by decide +kernel
theorem dX12_named_2 : decode cX12_named 2 = .ok (.invokevirtual 182, 3) := by decide +kernel
theorem dX12_named_5 : decode cX12_named 5 = .ok (.ifCond .ne 8, 3) := by decide +kernel
theorem dX12_named_8 : decode cX12_named 8 = .ok (.aload_n 0, 1) := by decide +kernel
theorem dX12_named_9 : decode cX12_named 9 = .ok (.iconst 2, 1) := by decide +kernel
theorem dX12_named_10 : decode cX12_named 10 = .ok (.invokevirtual 159, 3) := by decide +kernel
theorem dX12_named_13 : decode cX12_named 13 = .ok (.aload_n 0, 1) := by decide +kernel
theorem dX12_named_14 : decode cX12_named 14 = .ok (.iload_n 2, 1) := by decide +kernel
theorem dX12_named_15 : decode cX12_named 15 = .ok (.iload_n 3, 1) := by decide +kernel
theorem dX12_named_16 : decode cX12_named 16 = .ok (.invokevirtual 203, 3) := by decide +kernel
theorem dX12_named_19 : decode cX12_named 19 = .ok (.ireturn, 1) := by decide +kernel
def f_X12_named_13   (v2 : Int32) (v3 : Int32) (m : zz_Mem) : Option (Int32 × zz_Mem) :=
  zz_bnd (f_X12_takes v2 v3 m) fun r1 m2 =>
  some (r1, m2)
theorem t_X12_named_13 {l : Launch} {G : zz_G} (hN : 26 ≤ zz_N G)  : ∀ (v2 : Int32) (v3 : Int32) (m : zz_Mem), zz_Sim zz_shM l G mX12_named 7 zz_vI zz_m2 (f_X12_named_13 v2 v3 m) 13 [(0, .ref (zz_a G 0)), (2, .int v2), (3, .int v3)] [] m := by
  intro v2 v3 m
  unfold f_X12_named_13
  refine zs_aload_n dX12_named_13 rfl 0 rfl ?_
  refine zs_iload_n dX12_named_14 rfl 1 rfl ?_
  refine zs_iload_n dX12_named_15 rfl 2 rfl ?_
  refine zs_cV_iW (rest := []) (k_X12_takes hN _ _ _) dX12_named_16 lv_X12_203 ok_X12_takes (zz_rcv_o (shm_0 hN) rfl) (Nat.le_of_ble_eq_true rfl) rfl rfl (Nat.le_of_ble_eq_true rfl) (fun r1 m2 => ?_)
  exact zs_iret dX12_named_19 rfl rfl rfl
def f_X12_named  (p1 : Int32) (p2 : Int32) (p3 : Int32) (m : zz_Mem) : Option (Int32 × zz_Mem) :=
  zz_bnd (f_X12_eats p1 m) fun r1 m2 =>
  if r1 = 0 then (
  zz_bndR (f_X12_fails (2 : Int32) m2) fun m3 =>
  f_X12_named_13 p2 p3 m3)
  else (
  f_X12_named_13 p2 p3 m2)
theorem k_X12_named {l : Launch} {G : zz_G} (hN : 26 ≤ zz_N G) : ∀ (p1 : Int32) (p2 : Int32) (p3 : Int32) (m : zz_Mem), zz_Con zz_shM l G mX12_named 7 [.ref (zz_a G 0), .int p1, .int p2, .int p3] zz_vI zz_m2 (f_X12_named p1 p2 p3 m) m := by
  intro p1 p2 p3 m
  refine zz_con (lv := [(0, .ref (zz_a G 0)), (1, .int p1), (2, .int p2), (3, .int p3)]) (by decide +kernel) (Nat.le_of_ble_eq_true rfl) rfl ?_
  unfold f_X12_named
  refine zs_aload_n dX12_named_0 rfl 0 rfl ?_
  refine zs_iload_n dX12_named_1 rfl 1 rfl ?_
  refine zs_cV_iW (rest := []) (k_X12_eats hN _ _) dX12_named_2 lv_X12_182 ok_X12_eats (zz_rcv_o (shm_0 hN) rfl) (Nat.le_of_ble_eq_true rfl) rfl rfl (Nat.le_of_ble_eq_true rfl) (fun r1 m2 => ?_)
  refine zs_if_ne (tgt := 13) dX12_named_5 (by decide) ?_ ?_
  · refine zs_sub [0, 2, 3] rfl ?_
    exact t_X12_named_13 hN _ _ _
  · refine zs_aload_n dX12_named_8 rfl 0 rfl ?_
    refine zs_iconst (v := (2 : Int32)) dX12_named_9 ci_2 ?_
    refine zs_cV_vW (rest := []) (k_X12_fails hN _ _) dX12_named_10 lv_X12_159 ok_X12_fails (zz_rcv_o (shm_0 hN) rfl) (Nat.le_of_ble_eq_true rfl) rfl rfl (Nat.le_of_ble_eq_true rfl) (fun m3 => ?_)
    refine zs_sub [0, 2, 3] rfl ?_
    exact t_X12_named_13 hN _ _ _
/-! X12_readHoliday: PillarDeskModel.readHoliday()V -/
theorem dX12_readHoliday_0 : decode cX12_readHoliday 0 = .ok (.aload_n 0, 1) := by decide +kernel
theorem dX12_readHoliday_1 : decode cX12_readHoliday 1 = .ok (.getfield 24, 3) := by decide +kernel
theorem dX12_readHoliday_4 : decode cX12_readHoliday 4 = .ok (.iconst 3, 1) := by decide +kernel
theorem dX12_readHoliday_5 : decode cX12_readHoliday 5 = .ok (.iaload, 1) := by decide +kernel
theorem dX12_readHoliday_6 : decode cX12_readHoliday 6 = .ok (.istore_n 1, 1) := by decide +kernel
theorem dX12_readHoliday_7 : decode cX12_readHoliday 7 = .ok (.iload_n 1, 1) := by decide +kernel
theorem dX12_readHoliday_8 : decode cX12_readHoliday 8 = .ok (.bipush 12, 2) := by decide +kernel
theorem dX12_readHoliday_10 : decode cX12_readHoliday 10 = .ok (.if_icmp .ne 8, 3) := by decide +kernel
theorem dX12_readHoliday_13 : decode cX12_readHoliday 13 = .ok (.aload_n 0, 1) := by decide +kernel
theorem dX12_readHoliday_14 : decode cX12_readHoliday 14 = .ok (.iconst 4, 1) := by decide +kernel
theorem dX12_readHoliday_15 : decode cX12_readHoliday 15 = .ok (.invokevirtual 159, 3) := by decide +kernel
theorem dX12_readHoliday_18 : decode cX12_readHoliday 18 = .ok (.aload_n 0, 1) := by decide +kernel
theorem dX12_readHoliday_19 : decode cX12_readHoliday 19 = .ok (.getfield 147, 3) := by decide +kernel
theorem dX12_readHoliday_22 : decode cX12_readHoliday 22 = .ok (.ifCond .eq 4, 3) := by decide +kernel
theorem dX12_readHoliday_25 : decode cX12_readHoliday 25 = .ok (.return_, 1) := by decide +kernel
theorem dX12_readHoliday_26 : decode cX12_readHoliday 26 = .ok (.aload_n 0, 1) := by decide +kernel
theorem dX12_readHoliday_27 : decode cX12_readHoliday 27 = .ok (.invokevirtual 156, 3) := by decide +kernel
theorem dX12_readHoliday_30 : decode cX12_readHoliday 30 = .ok (.aload_n 0, 1) := by decide +kernel
theorem dX12_readHoliday_31 : decode cX12_readHoliday 31 = .ok (.getfield 24, 3) := by decide +kernel
theorem dX12_readHoliday_34 : decode cX12_readHoliday 34 = .ok (.bipush 12, 2) := by decide +kernel
theorem dX12_readHoliday_36 : decode cX12_readHoliday 36 = .ok (.iload_n 1, 1) := by decide +kernel
theorem dX12_readHoliday_37 : decode cX12_readHoliday 37 = .ok (.iadd, 1) := by decide +kernel
theorem dX12_readHoliday_38 : decode cX12_readHoliday 38 = .ok (.aload_n 0, 1) := by decide +kernel
theorem dX12_readHoliday_39 : decode cX12_readHoliday 39 = .ok (.iconst 0, 1) := by decide +kernel
theorem dX12_readHoliday_40 : decode cX12_readHoliday 40 = .ok (.sipush 999, 3) := by decide +kernel
theorem dX12_readHoliday_43 : decode cX12_readHoliday 43 = .ok (.invokevirtual 203, 3) := by decide +kernel
theorem dX12_readHoliday_46 : decode cX12_readHoliday 46 = .ok (.iastore, 1) := by decide +kernel
theorem dX12_readHoliday_47 : decode cX12_readHoliday 47 = .ok (.aload_n 0, 1) := by decide +kernel
theorem dX12_readHoliday_48 : decode cX12_readHoliday 48 = .ok (.getfield 147, 3) := by decide +kernel
theorem dX12_readHoliday_51 : decode cX12_readHoliday 51 = .ok (.ifCond .ne 13, 3) := by decide +kernel
theorem dX12_readHoliday_54 : decode cX12_readHoliday 54 = .ok (.aload_n 0, 1) := by decide +kernel
theorem dX12_readHoliday_55 : decode cX12_readHoliday 55 = .ok (.getfield 24, 3) := by decide +kernel
theorem dX12_readHoliday_58 : decode cX12_readHoliday 58 = .ok (.iconst 3, 1) := by decide +kernel
theorem dX12_readHoliday_59 : decode cX12_readHoliday 59 = .ok (.dup2, 1) := by decide +kernel
theorem dX12_readHoliday_60 : decode cX12_readHoliday 60 = .ok (.iaload, 1) := by decide +kernel
theorem dX12_readHoliday_61 : decode cX12_readHoliday 61 = .ok (.iconst 1, 1) := by decide +kernel
theorem dX12_readHoliday_62 : decode cX12_readHoliday 62 = .ok (.iadd, 1) := by decide +kernel
theorem dX12_readHoliday_63 : decode cX12_readHoliday 63 = .ok (.iastore, 1) := by decide +kernel
theorem dX12_readHoliday_64 : decode cX12_readHoliday 64 = .ok (.return_, 1) := by decide +kernel
def f_X12_readHoliday_18   (v1 : Int32) (m : zz_Mem) : Option zz_Mem :=
  if (m.1 0 11) = 0 then (
  zz_bndR (f_X12_next m) fun m1 =>
  zz_bnd (f_X12_takes (0 : Int32) (999 : Int32) m1) fun r2 m3 =>
  zz_ix ((12 : Int32) + v1) 1177 <| zz_letM (zz_setI m3 4 ((12 : Int32) + v1).toNatClampNeg r2) fun m4 =>
  if (m4.1 0 11) = 0 then (
  zz_letM (zz_setI m4 4 3 ((m4.1 4 3) + (1 : Int32))) fun m5 =>
  some m5)
  else (
  some m4))
  else (
  some m)
theorem t_X12_readHoliday_18 {l : Launch} {G : zz_G} (hN : 26 ≤ zz_N G)  : ∀ (v1 : Int32) (m : zz_Mem), zz_Sim zz_shM l G mX12_readHoliday 7 zz_vV zz_mV (f_X12_readHoliday_18 v1 m) 18 [(0, .ref (zz_a G 0)), (1, .int v1)] [] m := by
  intro v1 m
  unfold f_X12_readHoliday_18
  refine zs_aload_n dX12_readHoliday_18 rfl 0 rfl ?_
  refine zs_getI fl_X12_147 dX12_readHoliday_19 (shm_0 hN) rfl ?_
  refine zs_if_eq (tgt := 26) dX12_readHoliday_22 (by decide) ?_ ?_
  · refine zs_aload_n dX12_readHoliday_26 rfl 0 rfl ?_
    refine zs_cV_vW (rest := []) (k_X12_next hN  _) dX12_readHoliday_27 lv_X12_156 ok_X12_next (zz_rcv_o (shm_0 hN) rfl) (Nat.le_of_ble_eq_true rfl) rfl rfl (Nat.le_of_ble_eq_true rfl) (fun m1 => ?_)
    refine zs_aload_n dX12_readHoliday_30 rfl 0 rfl ?_
    refine zs_getR fl_X12_24 dX12_readHoliday_31 (shm_0 hN) rfl ?_
    refine zs_bipush (v := (12 : Int32)) dX12_readHoliday_34 cb_12 ?_
    refine zs_iload_n dX12_readHoliday_36 rfl 1 rfl ?_
    refine zs_iadd dX12_readHoliday_37 ?_
    refine zs_aload_n dX12_readHoliday_38 rfl 0 rfl ?_
    refine zs_iconst (v := (0 : Int32)) dX12_readHoliday_39 ci_0 ?_
    refine zs_sipush (v := (999 : Int32)) dX12_readHoliday_40 cs_999 ?_
    refine zs_cV_iW (rest := [.int ((12 : Int32) + v1), .ref (zz_a G 4)]) (k_X12_takes hN _ _ _) dX12_readHoliday_43 lv_X12_203 ok_X12_takes (zz_rcv_o (shm_0 hN) rfl) (Nat.le_of_ble_eq_true rfl) rfl rfl (Nat.le_of_ble_eq_true rfl) (fun r2 m3 => ?_)
    refine zs_iastG dX12_readHoliday_46 (shm_4 hN) (fun m4 => ?_)
    refine zs_aload_n dX12_readHoliday_47 rfl 0 rfl ?_
    refine zs_getI fl_X12_147 dX12_readHoliday_48 (shm_0 hN) rfl ?_
    refine zs_if_ne (tgt := 64) dX12_readHoliday_51 (by decide) ?_ ?_
    · exact zs_vret dX12_readHoliday_64 rfl rfl rfl
    · refine zs_aload_n dX12_readHoliday_54 rfl 0 rfl ?_
      refine zs_getR fl_X12_24 dX12_readHoliday_55 (shm_0 hN) rfl ?_
      refine zs_iconst (v := (3 : Int32)) dX12_readHoliday_58 ci_3 ?_
      refine zs_dup2_11 dX12_readHoliday_59 rfl rfl ?_
      refine zs_ialdC dX12_readHoliday_60 (shm_4 hN) vin_3_1177 clp_3 ?_
      refine zs_iconst (v := (1 : Int32)) dX12_readHoliday_61 ci_1 ?_
      refine zs_iadd dX12_readHoliday_62 ?_
      refine zs_iastC dX12_readHoliday_63 (shm_4 hN) vin_3_1177 clp_3 (fun m5 => ?_)
      exact zs_vret dX12_readHoliday_64 rfl rfl rfl
  · exact zs_vret dX12_readHoliday_25 rfl rfl rfl
def f_X12_readHoliday   (m : zz_Mem) : Option zz_Mem :=
  zz_letI (m.1 4 3) fun x1 =>
  if x1 = (12 : Int32) then (
  zz_bndR (f_X12_fails (4 : Int32) m) fun m2 =>
  f_X12_readHoliday_18 x1 m2)
  else (
  f_X12_readHoliday_18 x1 m)
theorem k_X12_readHoliday {l : Launch} {G : zz_G} (hN : 26 ≤ zz_N G) : ∀ (m : zz_Mem), zz_Con zz_shM l G mX12_readHoliday 7 [.ref (zz_a G 0)] zz_vV zz_mV (f_X12_readHoliday m) m := by
  intro m
  refine zz_con (lv := [(0, .ref (zz_a G 0))]) (by decide +kernel) (Nat.le_of_ble_eq_true rfl) rfl ?_
  unfold f_X12_readHoliday
  refine zs_aload_n dX12_readHoliday_0 rfl 0 rfl ?_
  refine zs_getR fl_X12_24 dX12_readHoliday_1 (shm_0 hN) rfl ?_
  refine zs_iconst (v := (3 : Int32)) dX12_readHoliday_4 ci_3 ?_
  refine zs_ialdC dX12_readHoliday_5 (shm_4 hN) vin_3_1177 clp_3 ?_
  refine zs_letI (fun x1 => ?_)
  refine zs_istore_n [(1, .int x1), (0, .ref (zz_a G 0))] dX12_readHoliday_6 rfl (Nat.le_of_ble_eq_true rfl) rfl ?_
  refine zs_iload_n dX12_readHoliday_7 rfl 0 rfl ?_
  refine zs_bipush (v := (12 : Int32)) dX12_readHoliday_8 cb_12 ?_
  refine zs_icmp_ne (tgt := 18) dX12_readHoliday_10 (by decide) ?_ ?_
  · refine zs_sub [1, 0] rfl ?_
    exact t_X12_readHoliday_18 hN _ _
  · refine zs_aload_n dX12_readHoliday_13 rfl 1 rfl ?_
    refine zs_iconst (v := (4 : Int32)) dX12_readHoliday_14 ci_4 ?_
    refine zs_cV_vW (rest := []) (k_X12_fails hN _ _) dX12_readHoliday_15 lv_X12_159 ok_X12_fails (zz_rcv_o (shm_0 hN) rfl) (Nat.le_of_ble_eq_true rfl) rfl rfl (Nat.le_of_ble_eq_true rfl) (fun m2 => ?_)
    refine zs_sub [1, 0] rfl ?_
    exact t_X12_readHoliday_18 hN _ _
/-! X12_readInput: PillarDeskModel.readInput()V -/
theorem dX12_readInput_0 : decode cX12_readInput 0 = .ok (.aload_n 0, 1) := by decide +kernel
theorem dX12_readInput_1 : decode cX12_readInput 1 = .ok (.getfield 24, 3) := by decide +kernel
theorem dX12_readInput_4 : decode cX12_readInput 4 = .ok (.iconst 4, 1) := by decide +kernel
theorem dX12_readInput_5 : decode cX12_readInput 5 = .ok (.iaload, 1) := by decide +kernel
theorem dX12_readInput_6 : decode cX12_readInput 6 = .ok (.istore_n 1, 1) := by decide +kernel
theorem dX12_readInput_7 : decode cX12_readInput 7 = .ok (.iload_n 1, 1) := by decide +kernel
theorem dX12_readInput_8 : decode cX12_readInput 8 = .ok (.bipush 8, 2) := by decide +kernel
theorem dX12_readInput_10 : decode cX12_readInput 10 = .ok (.if_icmp .ne 8, 3) := by decide +kernel
theorem dX12_readInput_13 : decode cX12_readInput 13 = .ok (.aload_n 0, 1) := by decide +kernel
theorem dX12_readInput_14 : decode cX12_readInput 14 = .ok (.iconst 4, 1) := by decide +kernel
theorem dX12_readInput_15 : decode cX12_readInput 15 = .ok (.invokevirtual 159, 3) := by decide +kernel
theorem dX12_readInput_18 : decode cX12_readInput 18 = .ok (.aload_n 0, 1) := by decide +kernel
theorem dX12_readInput_19 : decode cX12_readInput 19 = .ok (.getfield 147, 3) := by decide +kernel
theorem dX12_readInput_22 : decode cX12_readInput 22 = .ok (.ifCond .eq 4, 3) := by decide +kernel
theorem dX12_readInput_25 : decode cX12_readInput 25 = .ok (.return_, 1) := by decide +kernel
theorem dX12_readInput_26 : decode cX12_readInput 26 = .ok (.aload_n 0, 1) := by decide +kernel
theorem dX12_readInput_27 : decode cX12_readInput 27 = .ok (.getfield 129, 3) := by decide +kernel
theorem dX12_readInput_30 : decode cX12_readInput 30 = .ok (.iconst 5, 1) := by decide +kernel
theorem dX12_readInput_31 : decode cX12_readInput 31 = .ok (.if_icmp .ne 7, 3) := by decide +kernel
theorem dX12_readInput_34 : decode cX12_readInput 34 = .ok (.iconst 0, 1) := by decide +kernel
theorem dX12_readInput_35 : decode cX12_readInput 35 = .ok (.goto 17, 3) := by decide +kernel
theorem dX12_readInput_38 : decode cX12_readInput 38 = .ok (.aload_n 0, 1) := by decide +kernel
theorem dX12_readInput_39 : decode cX12_readInput 39 = .ok (.getfield 129, 3) := by decide +kernel
theorem dX12_readInput_42 : decode cX12_readInput 42 = .ok (.bipush 7, 2) := by decide +kernel
theorem dX12_readInput_44 : decode cX12_readInput 44 = .ok (.if_icmp .ne 7, 3) := by decide +kernel
theorem dX12_readInput_47 : decode cX12_readInput 47 = .ok (.iconst 1, 1) := by decide +kernel
theorem dX12_readInput_48 : decode cX12_readInput 48 = .ok (.goto 4, 3) := by decide +kernel
theorem dX12_readInput_51 : decode cX12_readInput 51 = .ok (.iconst 2, 1) := by decide +kernel
theorem dX12_readInput_52 : decode cX12_readInput 52 = .ok (.istore_n 2, 1) := by decide +kernel
theorem dX12_readInput_53 : decode cX12_readInput 53 = .ok (.aload_n 0, 1) := by decide +kernel
theorem dX12_readInput_54 : decode cX12_readInput 54 = .ok (.invokevirtual 156, 3) := by decide +kernel
theorem dX12_readInput_57 : decode cX12_readInput 57 = .ok (.iload_n 2, 1) := by decide +kernel
theorem dX12_readInput_58 : decode cX12_readInput 58 = .ok (.iconst 1, 1) := by decide +kernel
theorem dX12_readInput_59 : decode cX12_readInput 59 = .ok (.if_icmp .ne 14, 3) := by decide +kernel
theorem dX12_readInput_62 : decode cX12_readInput 62 = .ok (.aload_n 0, 1) := by decide +kernel
theorem dX12_readInput_63 : decode cX12_readInput 63 = .ok (.iconst 0, 1) := by decide +kernel
theorem dX12_readInput_64 : decode cX12_readInput 64 = .ok (.sipush 998, 3) := by decide +kernel
theorem dX12_readInput_67 : decode cX12_readInput 67 = .ok (.invokevirtual 203, 3) := by decide +kernel
theorem dX12_readInput_70 : decode cX12_readInput 70 = .ok (.goto 4, 3) := by decide +kernel
theorem dX12_readInput_73 : decode cX12_readInput 73 = .ok (.iconst 0, 1) := by decide +kernel
theorem dX12_readInput_74 : decode cX12_readInput 74 = .ok (.istore_n 3, 1) := by decide +kernel
theorem dX12_readInput_75 : decode cX12_readInput 75 = .ok (.aload_n 0, 1) := by decide +kernel
theorem dX12_readInput_76 : decode cX12_readInput 76 = .ok (.iload_n 3, 1) := by decide +kernel
theorem dX12_readInput_77 : decode cX12_readInput 77 = .ok (.iconst 1, 1) := by decide +kernel
theorem dX12_readInput_78 : decode cX12_readInput 78 = .ok (.iadd, 1) := by decide +kernel
theorem dX12_readInput_79 : decode cX12_readInput 79 = .ok (.sipush 999, 3) := by decide +kernel
theorem dX12_readInput_82 : decode cX12_readInput 82 = .ok (.invokevirtual 203, 3) := by decide +kernel
theorem dX12_readInput_85 : decode cX12_readInput 85 = .ok (.istore 4, 2) := by decide +kernel
theorem dX12_readInput_87 : decode cX12_readInput 87 = .ok (.iload_n 2, 1) := by decide +kernel
theorem dX12_readInput_88 : decode cX12_readInput 88 = .ok (.iconst 2, 1) := by decide +kernel
theorem dX12_readInput_89 : decode cX12_readInput 89 = .ok (.if_icmp .ne 17, 3) := by decide +kernel
theorem dX12_readInput_92 : decode cX12_readInput 92 = .ok (.aload_n 0, 1) := by decide +kernel
theorem dX12_readInput_93 : decode cX12_readInput 93 = .ok (.bipush 9, 2) := by decide +kernel
theorem dX12_readInput_95 : decode cX12_readInput 95 = .ok (.bipush 30, 2) := by decide +kernel
theorem dX12_readInput_97 : decode cX12_readInput 97 = .ok (.sipush 999, 3) := by decide +kernel
theorem dX12_readInput_100 : decode cX12_readInput 100 = .ok (.invokevirtual 207, 3) := by decide +kernel
theorem dX12_readInput_103 : decode cX12_readInput 103 = .ok (.goto 4, 3) := by decide +kernel
theorem dX12_readInput_106 : decode cX12_readInput 106 = .ok (.iconst 0, 1) := by decide +kernel
theorem dX12_readInput_107 : decode cX12_readInput 107 = .ok (.istore 5, 2) := by decide +kernel
theorem dX12_readInput_109 : decode cX12_readInput 109 = .ok (.aload_n 0, 1) := by decide +kernel
theorem dX12_readInput_110 : decode cX12_readInput 110 = .ok (.bipush 6, 2) := by decide +kernel
theorem dX12_readInput_112 : decode cX12_readInput 112 = .ok (.iconst 0, 1) := by decide +kernel
theorem dX12_readInput_113 : decode cX12_readInput 113 = .ok (.sipush 999, 3) := by decide +kernel
theorem dX12_readInput_116 : decode cX12_readInput 116 = .ok (.invokevirtual 207, 3) := by decide +kernel
theorem dX12_readInput_119 : decode cX12_readInput 119 = .ok (.istore 6, 2) := by decide +kernel
theorem dX12_readInput_121 : decode cX12_readInput 121 = .ok (.aload_n 0, 1) := by decide +kernel
theorem dX12_readInput_122 : decode cX12_readInput 122 = .ok (.getfield 147, 3) := by decide +kernel
theorem dX12_readInput_125 : decode cX12_readInput 125 = .ok (.ifCond .eq 4, 3) := by decide +kernel
theorem dX12_readInput_128 : decode cX12_readInput 128 = .ok (.return_, 1) := by decide +kernel
theorem dX12_readInput_129 : decode cX12_readInput 129 = .ok (.aload_n 0, 1) := by decide +kernel
theorem dX12_readInput_130 : decode cX12_readInput 130 = .ok (.getfield 24, 3) := by decide +kernel
theorem dX12_readInput_133 : decode cX12_readInput 133 = .ok (.bipush 24, 2) := by decide +kernel
theorem dX12_readInput_135 : decode cX12_readInput 135 = .ok (.iload_n 1, 1) := by decide +kernel
theorem dX12_readInput_136 : decode cX12_readInput 136 = .ok (.iadd, 1) := by decide +kernel
theorem dX12_readInput_137 : decode cX12_readInput 137 = .ok (.iload_n 2, 1) := by decide +kernel
theorem dX12_readInput_138 : decode cX12_readInput 138 = .ok (.iastore, 1) := by decide +kernel
theorem dX12_readInput_139 : decode cX12_readInput 139 = .ok (.aload_n 0, 1) := by decide +kernel
theorem dX12_readInput_140 : decode cX12_readInput 140 = .ok (.getfield 24, 3) := by decide +kernel
theorem dX12_readInput_143 : decode cX12_readInput 143 = .ok (.bipush 32, 2) := by decide +kernel
theorem dX12_readInput_145 : decode cX12_readInput 145 = .ok (.iload_n 1, 1) := by decide +kernel
theorem dX12_readInput_146 : decode cX12_readInput 146 = .ok (.iadd, 1) := by decide +kernel
theorem dX12_readInput_147 : decode cX12_readInput 147 = .ok (.iload_n 3, 1) := by decide +kernel
theorem dX12_readInput_148 : decode cX12_readInput 148 = .ok (.iastore, 1) := by decide +kernel
theorem dX12_readInput_149 : decode cX12_readInput 149 = .ok (.aload_n 0, 1) := by decide +kernel
theorem dX12_readInput_150 : decode cX12_readInput 150 = .ok (.getfield 24, 3) := by decide +kernel
theorem dX12_readInput_153 : decode cX12_readInput 153 = .ok (.bipush 40, 2) := by decide +kernel
theorem dX12_readInput_155 : decode cX12_readInput 155 = .ok (.iload_n 1, 1) := by decide +kernel
theorem dX12_readInput_156 : decode cX12_readInput 156 = .ok (.iadd, 1) := by decide +kernel
theorem dX12_readInput_157 : decode cX12_readInput 157 = .ok (.iload 4, 2) := by decide +kernel
theorem dX12_readInput_159 : decode cX12_readInput 159 = .ok (.iastore, 1) := by decide +kernel
theorem dX12_readInput_160 : decode cX12_readInput 160 = .ok (.aload_n 0, 1) := by decide +kernel
theorem dX12_readInput_161 : decode cX12_readInput 161 = .ok (.getfield 24, 3) := by decide +kernel
theorem dX12_readInput_164 : decode cX12_readInput 164 = .ok (.bipush 48, 2) := by decide +kernel
theorem dX12_readInput_166 : decode cX12_readInput 166 = .ok (.iload_n 1, 1) := by decide +kernel
theorem dX12_readInput_167 : decode cX12_readInput 167 = .ok (.iadd, 1) := by decide +kernel
theorem dX12_readInput_168 : decode cX12_readInput 168 = .ok (.iload 5, 2) := by decide +kernel
theorem dX12_readInput_170 : decode cX12_readInput 170 = .ok (.iastore, 1) := by decide +kernel
theorem dX12_readInput_171 : decode cX12_readInput 171 = .ok (.aload_n 0, 1) := by decide +kernel
theorem dX12_readInput_172 : decode cX12_readInput 172 = .ok (.getfield 24, 3) := by decide +kernel
theorem dX12_readInput_175 : decode cX12_readInput 175 = .ok (.bipush 66, 2) := by decide +kernel
theorem dX12_readInput_177 : decode cX12_readInput 177 = .ok (.iload_n 1, 1) := by decide +kernel
theorem dX12_readInput_178 : decode cX12_readInput 178 = .ok (.iadd, 1) := by decide +kernel
theorem dX12_readInput_179 : decode cX12_readInput 179 = .ok (.iload 6, 2) := by decide +kernel
theorem dX12_readInput_181 : decode cX12_readInput 181 = .ok (.iastore, 1) := by decide +kernel
theorem dX12_readInput_182 : decode cX12_readInput 182 = .ok (.aload_n 0, 1) := by decide +kernel
theorem dX12_readInput_183 : decode cX12_readInput 183 = .ok (.getfield 24, 3) := by decide +kernel
theorem dX12_readInput_186 : decode cX12_readInput 186 = .ok (.iconst 4, 1) := by decide +kernel
theorem dX12_readInput_187 : decode cX12_readInput 187 = .ok (.dup2, 1) := by decide +kernel
theorem dX12_readInput_188 : decode cX12_readInput 188 = .ok (.iaload, 1) := by decide +kernel
theorem dX12_readInput_189 : decode cX12_readInput 189 = .ok (.iconst 1, 1) := by decide +kernel
theorem dX12_readInput_190 : decode cX12_readInput 190 = .ok (.iadd, 1) := by decide +kernel
theorem dX12_readInput_191 : decode cX12_readInput 191 = .ok (.iastore, 1) := by decide +kernel
theorem dX12_readInput_192 : decode cX12_readInput 192 = .ok (.return_, 1) := by decide +kernel
def f_X12_readInput_107   (v1 : Int32) (v2 : Int32) (v3 : Int32) (v4 : Int32) (s0 : Int32) (m : zz_Mem) : Option zz_Mem :=
  zz_bnd (f_X12_named (6 : Int32) (0 : Int32) (999 : Int32) m) fun r1 m2 =>
  if (m2.1 0 11) = 0 then (
  zz_ix ((24 : Int32) + v1) 1177 <| zz_letM (zz_setI m2 4 ((24 : Int32) + v1).toNatClampNeg v2) fun m3 =>
  zz_ix ((32 : Int32) + v1) 1177 <| zz_letM (zz_setI m3 4 ((32 : Int32) + v1).toNatClampNeg v3) fun m4 =>
  zz_ix ((40 : Int32) + v1) 1177 <| zz_letM (zz_setI m4 4 ((40 : Int32) + v1).toNatClampNeg v4) fun m5 =>
  zz_ix ((48 : Int32) + v1) 1177 <| zz_letM (zz_setI m5 4 ((48 : Int32) + v1).toNatClampNeg s0) fun m6 =>
  zz_ix ((66 : Int32) + v1) 1177 <| zz_letM (zz_setI m6 4 ((66 : Int32) + v1).toNatClampNeg r1) fun m7 =>
  zz_letM (zz_setI m7 4 4 ((m7.1 4 4) + (1 : Int32))) fun m8 =>
  some m8)
  else (
  some m2)
theorem t_X12_readInput_107 {l : Launch} {G : zz_G} (hN : 26 ≤ zz_N G)  : ∀ (v1 : Int32) (v2 : Int32) (v3 : Int32) (v4 : Int32) (s0 : Int32) (m : zz_Mem), zz_Sim zz_shM l G mX12_readInput 8 zz_vV zz_mV (f_X12_readInput_107 v1 v2 v3 v4 s0 m) 107 [(0, .ref (zz_a G 0)), (1, .int v1), (2, .int v2), (3, .int v3), (4, .int v4)] [.int s0] m := by
  intro v1 v2 v3 v4 s0 m
  unfold f_X12_readInput_107
  refine zs_istore [(5, .int s0), (0, .ref (zz_a G 0)), (1, .int v1), (2, .int v2), (3, .int v3), (4, .int v4)] dX12_readInput_107 (Nat.le_of_ble_eq_true rfl) rfl ?_
  refine zs_aload_n dX12_readInput_109 rfl 1 rfl ?_
  refine zs_bipush (v := (6 : Int32)) dX12_readInput_110 cb_6 ?_
  refine zs_iconst (v := (0 : Int32)) dX12_readInput_112 ci_0 ?_
  refine zs_sipush (v := (999 : Int32)) dX12_readInput_113 cs_999 ?_
  refine zs_cV_iW (rest := []) (k_X12_named hN _ _ _ _) dX12_readInput_116 lv_X12_207 ok_X12_named (zz_rcv_o (shm_0 hN) rfl) (Nat.le_of_ble_eq_true rfl) rfl rfl (Nat.le_of_ble_eq_true rfl) (fun r1 m2 => ?_)
  refine zs_istore [(6, .int r1), (5, .int s0), (0, .ref (zz_a G 0)), (1, .int v1), (2, .int v2), (3, .int v3), (4, .int v4)] dX12_readInput_119 (Nat.le_of_ble_eq_true rfl) rfl ?_
  refine zs_aload_n dX12_readInput_121 rfl 2 rfl ?_
  refine zs_getI fl_X12_147 dX12_readInput_122 (shm_0 hN) rfl ?_
  refine zs_if_eq (tgt := 129) dX12_readInput_125 (by decide) ?_ ?_
  · refine zs_aload_n dX12_readInput_129 rfl 2 rfl ?_
    refine zs_getR fl_X12_24 dX12_readInput_130 (shm_0 hN) rfl ?_
    refine zs_bipush (v := (24 : Int32)) dX12_readInput_133 cb_24 ?_
    refine zs_iload_n dX12_readInput_135 rfl 3 rfl ?_
    refine zs_iadd dX12_readInput_136 ?_
    refine zs_iload_n dX12_readInput_137 rfl 4 rfl ?_
    refine zs_iastG dX12_readInput_138 (shm_4 hN) (fun m3 => ?_)
    refine zs_aload_n dX12_readInput_139 rfl 2 rfl ?_
    refine zs_getR fl_X12_24 dX12_readInput_140 (shm_0 hN) rfl ?_
    refine zs_bipush (v := (32 : Int32)) dX12_readInput_143 cb_32 ?_
    refine zs_iload_n dX12_readInput_145 rfl 3 rfl ?_
    refine zs_iadd dX12_readInput_146 ?_
    refine zs_iload_n dX12_readInput_147 rfl 5 rfl ?_
    refine zs_iastG dX12_readInput_148 (shm_4 hN) (fun m4 => ?_)
    refine zs_aload_n dX12_readInput_149 rfl 2 rfl ?_
    refine zs_getR fl_X12_24 dX12_readInput_150 (shm_0 hN) rfl ?_
    refine zs_bipush (v := (40 : Int32)) dX12_readInput_153 cb_40 ?_
    refine zs_iload_n dX12_readInput_155 rfl 3 rfl ?_
    refine zs_iadd dX12_readInput_156 ?_
    refine zs_iload dX12_readInput_157 6 rfl ?_
    refine zs_iastG dX12_readInput_159 (shm_4 hN) (fun m5 => ?_)
    refine zs_aload_n dX12_readInput_160 rfl 2 rfl ?_
    refine zs_getR fl_X12_24 dX12_readInput_161 (shm_0 hN) rfl ?_
    refine zs_bipush (v := (48 : Int32)) dX12_readInput_164 cb_48 ?_
    refine zs_iload_n dX12_readInput_166 rfl 3 rfl ?_
    refine zs_iadd dX12_readInput_167 ?_
    refine zs_iload dX12_readInput_168 1 rfl ?_
    refine zs_iastG dX12_readInput_170 (shm_4 hN) (fun m6 => ?_)
    refine zs_aload_n dX12_readInput_171 rfl 2 rfl ?_
    refine zs_getR fl_X12_24 dX12_readInput_172 (shm_0 hN) rfl ?_
    refine zs_bipush (v := (66 : Int32)) dX12_readInput_175 cb_66 ?_
    refine zs_iload_n dX12_readInput_177 rfl 3 rfl ?_
    refine zs_iadd dX12_readInput_178 ?_
    refine zs_iload dX12_readInput_179 0 rfl ?_
    refine zs_iastG dX12_readInput_181 (shm_4 hN) (fun m7 => ?_)
    refine zs_aload_n dX12_readInput_182 rfl 2 rfl ?_
    refine zs_getR fl_X12_24 dX12_readInput_183 (shm_0 hN) rfl ?_
    refine zs_iconst (v := (4 : Int32)) dX12_readInput_186 ci_4 ?_
    refine zs_dup2_11 dX12_readInput_187 rfl rfl ?_
    refine zs_ialdC dX12_readInput_188 (shm_4 hN) vin_4_1177 clp_4 ?_
    refine zs_iconst (v := (1 : Int32)) dX12_readInput_189 ci_1 ?_
    refine zs_iadd dX12_readInput_190 ?_
    refine zs_iastC dX12_readInput_191 (shm_4 hN) vin_4_1177 clp_4 (fun m8 => ?_)
    exact zs_vret dX12_readInput_192 rfl rfl rfl
  · exact zs_vret dX12_readInput_128 rfl rfl rfl
def f_X12_readInput_74   (v1 : Int32) (v2 : Int32) (s0 : Int32) (m : zz_Mem) : Option zz_Mem :=
  zz_bnd (f_X12_takes (s0 + (1 : Int32)) (999 : Int32) m) fun r1 m2 =>
  if v2 = (2 : Int32) then (
  zz_bnd (f_X12_named (9 : Int32) (30 : Int32) (999 : Int32) m2) fun r3 m4 =>
  f_X12_readInput_107 v1 v2 s0 r1 r3 m4)
  else (
  f_X12_readInput_107 v1 v2 s0 r1 (0 : Int32) m2)
theorem t_X12_readInput_74 {l : Launch} {G : zz_G} (hN : 26 ≤ zz_N G)  : ∀ (v1 : Int32) (v2 : Int32) (s0 : Int32) (m : zz_Mem), zz_Sim zz_shM l G mX12_readInput 8 zz_vV zz_mV (f_X12_readInput_74 v1 v2 s0 m) 74 [(0, .ref (zz_a G 0)), (1, .int v1), (2, .int v2)] [.int s0] m := by
  intro v1 v2 s0 m
  unfold f_X12_readInput_74
  refine zs_istore_n [(3, .int s0), (0, .ref (zz_a G 0)), (1, .int v1), (2, .int v2)] dX12_readInput_74 rfl (Nat.le_of_ble_eq_true rfl) rfl ?_
  refine zs_aload_n dX12_readInput_75 rfl 1 rfl ?_
  refine zs_iload_n dX12_readInput_76 rfl 0 rfl ?_
  refine zs_iconst (v := (1 : Int32)) dX12_readInput_77 ci_1 ?_
  refine zs_iadd dX12_readInput_78 ?_
  refine zs_sipush (v := (999 : Int32)) dX12_readInput_79 cs_999 ?_
  refine zs_cV_iW (rest := []) (k_X12_takes hN _ _ _) dX12_readInput_82 lv_X12_203 ok_X12_takes (zz_rcv_o (shm_0 hN) rfl) (Nat.le_of_ble_eq_true rfl) rfl rfl (Nat.le_of_ble_eq_true rfl) (fun r1 m2 => ?_)
  refine zs_istore [(4, .int r1), (3, .int s0), (0, .ref (zz_a G 0)), (1, .int v1), (2, .int v2)] dX12_readInput_85 (Nat.le_of_ble_eq_true rfl) rfl ?_
  refine zs_iload_n dX12_readInput_87 rfl 4 rfl ?_
  refine zs_iconst (v := (2 : Int32)) dX12_readInput_88 ci_2 ?_
  refine zs_icmp_ne (tgt := 106) dX12_readInput_89 (by decide) ?_ ?_
  · refine zs_iconst (v := (0 : Int32)) dX12_readInput_106 ci_0 ?_
    refine zs_sub [2, 3, 4, 1, 0] rfl ?_
    exact t_X12_readInput_107 hN _ _ _ _ _ _
  · refine zs_aload_n dX12_readInput_92 rfl 2 rfl ?_
    refine zs_bipush (v := (9 : Int32)) dX12_readInput_93 cb_9 ?_
    refine zs_bipush (v := (30 : Int32)) dX12_readInput_95 cb_30 ?_
    refine zs_sipush (v := (999 : Int32)) dX12_readInput_97 cs_999 ?_
    refine zs_cV_iW (rest := []) (k_X12_named hN _ _ _ _) dX12_readInput_100 lv_X12_207 ok_X12_named (zz_rcv_o (shm_0 hN) rfl) (Nat.le_of_ble_eq_true rfl) rfl rfl (Nat.le_of_ble_eq_true rfl) (fun r3 m4 => ?_)
    refine zs_goto (tgt := 107) dX12_readInput_103 (by decide) ?_
    refine zs_sub [2, 3, 4, 1, 0] rfl ?_
    exact t_X12_readInput_107 hN _ _ _ _ _ _
def f_X12_readInput_52   (v1 : Int32) (s0 : Int32) (m : zz_Mem) : Option zz_Mem :=
  zz_bndR (f_X12_next m) fun m1 =>
  if s0 = (1 : Int32) then (
  zz_bnd (f_X12_takes (0 : Int32) (998 : Int32) m1) fun r2 m3 =>
  f_X12_readInput_74 v1 s0 r2 m3)
  else (
  f_X12_readInput_74 v1 s0 (0 : Int32) m1)
theorem t_X12_readInput_52 {l : Launch} {G : zz_G} (hN : 26 ≤ zz_N G)  : ∀ (v1 : Int32) (s0 : Int32) (m : zz_Mem), zz_Sim zz_shM l G mX12_readInput 8 zz_vV zz_mV (f_X12_readInput_52 v1 s0 m) 52 [(0, .ref (zz_a G 0)), (1, .int v1)] [.int s0] m := by
  intro v1 s0 m
  unfold f_X12_readInput_52
  refine zs_istore_n [(2, .int s0), (0, .ref (zz_a G 0)), (1, .int v1)] dX12_readInput_52 rfl (Nat.le_of_ble_eq_true rfl) rfl ?_
  refine zs_aload_n dX12_readInput_53 rfl 1 rfl ?_
  refine zs_cV_vW (rest := []) (k_X12_next hN  _) dX12_readInput_54 lv_X12_156 ok_X12_next (zz_rcv_o (shm_0 hN) rfl) (Nat.le_of_ble_eq_true rfl) rfl rfl (Nat.le_of_ble_eq_true rfl) (fun m1 => ?_)
  refine zs_iload_n dX12_readInput_57 rfl 0 rfl ?_
  refine zs_iconst (v := (1 : Int32)) dX12_readInput_58 ci_1 ?_
  refine zs_icmp_ne (tgt := 73) dX12_readInput_59 (by decide) ?_ ?_
  · refine zs_iconst (v := (0 : Int32)) dX12_readInput_73 ci_0 ?_
    refine zs_sub [1, 2, 0] rfl ?_
    exact t_X12_readInput_74 hN _ _ _ _
  · refine zs_aload_n dX12_readInput_62 rfl 1 rfl ?_
    refine zs_iconst (v := (0 : Int32)) dX12_readInput_63 ci_0 ?_
    refine zs_sipush (v := (998 : Int32)) dX12_readInput_64 cs_998 ?_
    refine zs_cV_iW (rest := []) (k_X12_takes hN _ _ _) dX12_readInput_67 lv_X12_203 ok_X12_takes (zz_rcv_o (shm_0 hN) rfl) (Nat.le_of_ble_eq_true rfl) rfl rfl (Nat.le_of_ble_eq_true rfl) (fun r2 m3 => ?_)
    refine zs_goto (tgt := 74) dX12_readInput_70 (by decide) ?_
    refine zs_sub [1, 2, 0] rfl ?_
    exact t_X12_readInput_74 hN _ _ _ _
def f_X12_readInput_18   (v1 : Int32) (m : zz_Mem) : Option zz_Mem :=
  if (m.1 0 11) = 0 then (
  if (m.1 0 9) = (5 : Int32) then (
  f_X12_readInput_52 v1 (0 : Int32) m)
  else (
  if (m.1 0 9) = (7 : Int32) then (
  f_X12_readInput_52 v1 (1 : Int32) m)
  else (
  f_X12_readInput_52 v1 (2 : Int32) m)))
  else (
  some m)
theorem t_X12_readInput_18 {l : Launch} {G : zz_G} (hN : 26 ≤ zz_N G)  : ∀ (v1 : Int32) (m : zz_Mem), zz_Sim zz_shM l G mX12_readInput 8 zz_vV zz_mV (f_X12_readInput_18 v1 m) 18 [(0, .ref (zz_a G 0)), (1, .int v1)] [] m := by
  intro v1 m
  unfold f_X12_readInput_18
  refine zs_aload_n dX12_readInput_18 rfl 0 rfl ?_
  refine zs_getI fl_X12_147 dX12_readInput_19 (shm_0 hN) rfl ?_
  refine zs_if_eq (tgt := 26) dX12_readInput_22 (by decide) ?_ ?_
  · refine zs_aload_n dX12_readInput_26 rfl 0 rfl ?_
    refine zs_getI fl_X12_129 dX12_readInput_27 (shm_0 hN) rfl ?_
    refine zs_iconst (v := (5 : Int32)) dX12_readInput_30 ci_5 ?_
    refine zs_icmp_ne (tgt := 38) dX12_readInput_31 (by decide) ?_ ?_
    · refine zs_aload_n dX12_readInput_38 rfl 0 rfl ?_
      refine zs_getI fl_X12_129 dX12_readInput_39 (shm_0 hN) rfl ?_
      refine zs_bipush (v := (7 : Int32)) dX12_readInput_42 cb_7 ?_
      refine zs_icmp_ne (tgt := 51) dX12_readInput_44 (by decide) ?_ ?_
      · refine zs_iconst (v := (2 : Int32)) dX12_readInput_51 ci_2 ?_
        exact t_X12_readInput_52 hN _ _ _
      · refine zs_iconst (v := (1 : Int32)) dX12_readInput_47 ci_1 ?_
        refine zs_goto (tgt := 52) dX12_readInput_48 (by decide) ?_
        exact t_X12_readInput_52 hN _ _ _
    · refine zs_iconst (v := (0 : Int32)) dX12_readInput_34 ci_0 ?_
      refine zs_goto (tgt := 52) dX12_readInput_35 (by decide) ?_
      exact t_X12_readInput_52 hN _ _ _
  · exact zs_vret dX12_readInput_25 rfl rfl rfl
def f_X12_readInput   (m : zz_Mem) : Option zz_Mem :=
  zz_letI (m.1 4 4) fun x1 =>
  if x1 = (8 : Int32) then (
  zz_bndR (f_X12_fails (4 : Int32) m) fun m2 =>
  f_X12_readInput_18 x1 m2)
  else (
  f_X12_readInput_18 x1 m)
theorem k_X12_readInput {l : Launch} {G : zz_G} (hN : 26 ≤ zz_N G) : ∀ (m : zz_Mem), zz_Con zz_shM l G mX12_readInput 8 [.ref (zz_a G 0)] zz_vV zz_mV (f_X12_readInput m) m := by
  intro m
  refine zz_con (lv := [(0, .ref (zz_a G 0))]) (by decide +kernel) (Nat.le_of_ble_eq_true rfl) rfl ?_
  unfold f_X12_readInput
  refine zs_aload_n dX12_readInput_0 rfl 0 rfl ?_
  refine zs_getR fl_X12_24 dX12_readInput_1 (shm_0 hN) rfl ?_
  refine zs_iconst (v := (4 : Int32)) dX12_readInput_4 ci_4 ?_
  refine zs_ialdC dX12_readInput_5 (shm_4 hN) vin_4_1177 clp_4 ?_
  refine zs_letI (fun x1 => ?_)
  refine zs_istore_n [(1, .int x1), (0, .ref (zz_a G 0))] dX12_readInput_6 rfl (Nat.le_of_ble_eq_true rfl) rfl ?_
  refine zs_iload_n dX12_readInput_7 rfl 0 rfl ?_
  refine zs_bipush (v := (8 : Int32)) dX12_readInput_8 cb_8 ?_
  refine zs_icmp_ne (tgt := 18) dX12_readInput_10 (by decide) ?_ ?_
  · refine zs_sub [1, 0] rfl ?_
    exact t_X12_readInput_18 hN _ _
  · refine zs_aload_n dX12_readInput_13 rfl 1 rfl ?_
    refine zs_iconst (v := (4 : Int32)) dX12_readInput_14 ci_4 ?_
    refine zs_cV_vW (rest := []) (k_X12_fails hN _ _) dX12_readInput_15 lv_X12_159 ok_X12_fails (zz_rcv_o (shm_0 hN) rfl) (Nat.le_of_ble_eq_true rfl) rfl rfl (Nat.le_of_ble_eq_true rfl) (fun m2 => ?_)
    refine zs_sub [1, 0] rfl ?_
    exact t_X12_readInput_18 hN _ _
/-! X12_readFlow: PillarDeskModel.readFlow()V -/
theorem dX12_readFlow_0 : decode cX12_readFlow 0 = .ok (.aload_n 0, 1) := by decide +kernel
theorem dX12_readFlow_1 : decode cX12_readFlow 1 = .ok (.getfield 24, 3) := by decide +kernel
theorem dX12_readFlow_4 : decode cX12_readFlow 4 = .ok (.iconst 5, 1) := by decide +kernel
theorem dX12_readFlow_5 : decode cX12_readFlow 5 = .ok (.iaload, 1) := by decide +kernel
theorem dX12_readFlow_6 : decode cX12_readFlow 6 = .ok (.istore_n 1, 1) := by decide +kernel
theorem dX12_readFlow_7 : decode cX12_readFlow 7 = .ok (.iload_n 1, 1) := by decide +kernel
theorem dX12_readFlow_8 : decode cX12_readFlow 8 = .ok (.bipush 10, 2) := by decide +kernel
theorem dX12_readFlow_10 : decode cX12_readFlow 10 = .ok (.if_icmp .ne 8, 3) := by decide +kernel
theorem dX12_readFlow_13 : decode cX12_readFlow 13 = .ok (.aload_n 0, 1) := by decide +kernel
theorem dX12_readFlow_14 : decode cX12_readFlow 14 = .ok (.iconst 4, 1) := by decide +kernel
theorem dX12_readFlow_15 : decode cX12_readFlow 15 = .ok (.invokevirtual 159, 3) := by decide +kernel
theorem dX12_readFlow_18 : decode cX12_readFlow 18 = .ok (.aload_n 0, 1) := by decide +kernel
theorem dX12_readFlow_19 : decode cX12_readFlow 19 = .ok (.getfield 147, 3) := by decide +kernel
theorem dX12_readFlow_22 : decode cX12_readFlow 22 = .ok (.ifCond .eq 4, 3) := by decide +kernel
theorem dX12_readFlow_25 : decode cX12_readFlow 25 = .ok (.return_, 1) := by decide +kernel
theorem dX12_readFlow_26 : decode cX12_readFlow 26 = .ok (.aload_n 0, 1) := by decide +kernel
theorem dX12_readFlow_27 : decode cX12_readFlow 27 = .ok (.invokevirtual 156, 3) := by decide +kernel
theorem dX12_readFlow_30 : decode cX12_readFlow 30 = .ok (.aload_n 0, 1) := by decide +kernel
theorem dX12_readFlow_31 : decode cX12_readFlow 31 = .ok (.getfield 24, 3) := by decide +kernel
theorem dX12_readFlow_34 : decode cX12_readFlow 34 = .ok (.bipush 56, 2) := by decide +kernel
theorem dX12_readFlow_36 : decode cX12_readFlow 36 = .ok (.iload_n 1, 1) := by decide +kernel
theorem dX12_readFlow_37 : decode cX12_readFlow 37 = .ok (.iadd, 1) := by decide +kernel
theorem dX12_readFlow_38 : decode cX12_readFlow 38 = .ok (.aload_n 0, 1) := by decide +kernel
theorem dX12_readFlow_39 : decode cX12_readFlow 39 = .ok (.iconst 0, 1) := by decide +kernel
theorem dX12_readFlow_40 : decode cX12_readFlow 40 = .ok (.sipush 999, 3) := by decide +kernel
theorem dX12_readFlow_43 : decode cX12_readFlow 43 = .ok (.invokevirtual 203, 3) := by decide +kernel
theorem dX12_readFlow_46 : decode cX12_readFlow 46 = .ok (.iastore, 1) := by decide +kernel
theorem dX12_readFlow_47 : decode cX12_readFlow 47 = .ok (.aload_n 0, 1) := by decide +kernel
theorem dX12_readFlow_48 : decode cX12_readFlow 48 = .ok (.bipush 12, 2) := by decide +kernel
theorem dX12_readFlow_50 : decode cX12_readFlow 50 = .ok (.invokevirtual 153, 3) := by decide +kernel
theorem dX12_readFlow_53 : decode cX12_readFlow 53 = .ok (.istore_n 2, 1) := by decide +kernel
theorem dX12_readFlow_54 : decode cX12_readFlow 54 = .ok (.aload_n 0, 1) := by decide +kernel
theorem dX12_readFlow_55 : decode cX12_readFlow 55 = .ok (.bipush 11, 2) := by decide +kernel
theorem dX12_readFlow_57 : decode cX12_readFlow 57 = .ok (.invokevirtual 182, 3) := by decide +kernel
theorem dX12_readFlow_60 : decode cX12_readFlow 60 = .ok (.ifCond .ne 17, 3) := by decide +kernel
theorem dX12_readFlow_63 : decode cX12_readFlow 63 = .ok (.aload_n 0, 1) := by decide +kernel
theorem dX12_readFlow_64 : decode cX12_readFlow 64 = .ok (.bipush 12, 2) := by decide +kernel
theorem dX12_readFlow_66 : decode cX12_readFlow 66 = .ok (.invokevirtual 182, 3) := by decide +kernel
theorem dX12_readFlow_69 : decode cX12_readFlow 69 = .ok (.ifCond .ne 8, 3) := by decide +kernel
theorem dX12_readFlow_72 : decode cX12_readFlow 72 = .ok (.aload_n 0, 1) := by decide +kernel
theorem dX12_readFlow_73 : decode cX12_readFlow 73 = .ok (.iconst 2, 1) := by decide +kernel
theorem dX12_readFlow_74 : decode cX12_readFlow 74 = .ok (.invokevirtual 159, 3) := by decide +kernel
theorem dX12_readFlow_77 : decode cX12_readFlow 77 = .ok (.aload_n 0, 1) := by decide +kernel
theorem dX12_readFlow_78 : decode cX12_readFlow 78 = .ok (.iconst 0, 1) := by decide +kernel
theorem dX12_readFlow_79 : decode cX12_readFlow 79 = .ok (.sipush 999, 3) := by decide +kernel
theorem dX12_readFlow_82 : decode cX12_readFlow 82 = .ok (.invokevirtual 203, 3) := by decide +kernel
theorem dX12_readFlow_85 : decode cX12_readFlow 85 = .ok (.istore_n 3, 1) := by decide +kernel
theorem dX12_readFlow_86 : decode cX12_readFlow 86 = .ok (.aload_n 0, 1) := by decide +kernel
theorem dX12_readFlow_87 : decode cX12_readFlow 87 = .ok (.getfield 147, 3) := by decide +kernel
theorem dX12_readFlow_90 : decode cX12_readFlow 90 = .ok (.ifCond .eq 4, 3) := by decide +kernel
theorem dX12_readFlow_93 : decode cX12_readFlow 93 = .ok (.return_, 1) := by decide +kernel
theorem dX12_readFlow_94 : decode cX12_readFlow 94 = .ok (.aload_n 0, 1) := by decide +kernel
theorem dX12_readFlow_95 : decode cX12_readFlow 95 = .ok (.getfield 24, 3) := by decide +kernel
theorem dX12_readFlow_98 : decode cX12_readFlow 98 = .ok (.bipush 75, 2) := by decide +kernel
theorem dX12_readFlow_100 : decode cX12_readFlow 100 = .ok (.iload_n 1, 1) := by decide +kernel
theorem dX12_readFlow_101 : decode cX12_readFlow 101 = .ok (.iadd, 1) := by decide +kernel
theorem dX12_readFlow_102 : decode cX12_readFlow 102 = .ok (.iload_n 2, 1) := by decide +kernel
theorem dX12_readFlow_103 : decode cX12_readFlow 103 = .ok (.ifCond .eq 8, 3) := by decide +kernel
theorem dX12_readFlow_106 : decode cX12_readFlow 106 = .ok (.iload_n 3, 1) := by decide +kernel
theorem dX12_readFlow_107 : decode cX12_readFlow 107 = .ok (.ineg, 1) := by decide +kernel
theorem dX12_readFlow_108 : decode cX12_readFlow 108 = .ok (.goto 4, 3) := by decide +kernel
theorem dX12_readFlow_111 : decode cX12_readFlow 111 = .ok (.iload_n 3, 1) := by decide +kernel
theorem dX12_readFlow_112 : decode cX12_readFlow 112 = .ok (.iastore, 1) := by decide +kernel
theorem dX12_readFlow_113 : decode cX12_readFlow 113 = .ok (.aload_n 0, 1) := by decide +kernel
theorem dX12_readFlow_114 : decode cX12_readFlow 114 = .ok (.getfield 24, 3) := by decide +kernel
theorem dX12_readFlow_117 : decode cX12_readFlow 117 = .ok (.iconst 5, 1) := by decide +kernel
theorem dX12_readFlow_118 : decode cX12_readFlow 118 = .ok (.dup2, 1) := by decide +kernel
theorem dX12_readFlow_119 : decode cX12_readFlow 119 = .ok (.iaload, 1) := by decide +kernel
theorem dX12_readFlow_120 : decode cX12_readFlow 120 = .ok (.iconst 1, 1) := by decide +kernel
theorem dX12_readFlow_121 : decode cX12_readFlow 121 = .ok (.iadd, 1) := by decide +kernel
theorem dX12_readFlow_122 : decode cX12_readFlow 122 = .ok (.iastore, 1) := by decide +kernel
theorem dX12_readFlow_123 : decode cX12_readFlow 123 = .ok (.return_, 1) := by decide +kernel
def f_X12_readFlow_112   (s0 : Int32) (s1 : Int32) (m : zz_Mem) : Option zz_Mem :=
  zz_ix s1 1177 <| zz_letM (zz_setI m 4 s1.toNatClampNeg s0) fun m1 =>
  zz_letM (zz_setI m1 4 5 ((m1.1 4 5) + (1 : Int32))) fun m2 =>
  some m2
theorem t_X12_readFlow_112 {l : Launch} {G : zz_G} (hN : 26 ≤ zz_N G)  : ∀ (s0 : Int32) (s1 : Int32) (m : zz_Mem), zz_Sim zz_shM l G mX12_readFlow 7 zz_vV zz_mV (f_X12_readFlow_112 s0 s1 m) 112 [(0, .ref (zz_a G 0))] [.int s0, .int s1, .ref (zz_a G 4)] m := by
  intro s0 s1 m
  unfold f_X12_readFlow_112
  refine zs_iastG dX12_readFlow_112 (shm_4 hN) (fun m1 => ?_)
  refine zs_aload_n dX12_readFlow_113 rfl 0 rfl ?_
  refine zs_getR fl_X12_24 dX12_readFlow_114 (shm_0 hN) rfl ?_
  refine zs_iconst (v := (5 : Int32)) dX12_readFlow_117 ci_5 ?_
  refine zs_dup2_11 dX12_readFlow_118 rfl rfl ?_
  refine zs_ialdC dX12_readFlow_119 (shm_4 hN) vin_5_1177 clp_5 ?_
  refine zs_iconst (v := (1 : Int32)) dX12_readFlow_120 ci_1 ?_
  refine zs_iadd dX12_readFlow_121 ?_
  refine zs_iastC dX12_readFlow_122 (shm_4 hN) vin_5_1177 clp_5 (fun m2 => ?_)
  exact zs_vret dX12_readFlow_123 rfl rfl rfl
def f_X12_readFlow_77   (v1 : Int32) (v2 : Int32) (m : zz_Mem) : Option zz_Mem :=
  zz_bnd (f_X12_takes (0 : Int32) (999 : Int32) m) fun r1 m2 =>
  if (m2.1 0 11) = 0 then (
  if v2 = 0 then (
  f_X12_readFlow_112 r1 ((75 : Int32) + v1) m2)
  else (
  f_X12_readFlow_112 (-r1) ((75 : Int32) + v1) m2))
  else (
  some m2)
theorem t_X12_readFlow_77 {l : Launch} {G : zz_G} (hN : 26 ≤ zz_N G)  : ∀ (v1 : Int32) (v2 : Int32) (m : zz_Mem), zz_Sim zz_shM l G mX12_readFlow 7 zz_vV zz_mV (f_X12_readFlow_77 v1 v2 m) 77 [(0, .ref (zz_a G 0)), (1, .int v1), (2, .int v2)] [] m := by
  intro v1 v2 m
  unfold f_X12_readFlow_77
  refine zs_aload_n dX12_readFlow_77 rfl 0 rfl ?_
  refine zs_iconst (v := (0 : Int32)) dX12_readFlow_78 ci_0 ?_
  refine zs_sipush (v := (999 : Int32)) dX12_readFlow_79 cs_999 ?_
  refine zs_cV_iW (rest := []) (k_X12_takes hN _ _ _) dX12_readFlow_82 lv_X12_203 ok_X12_takes (zz_rcv_o (shm_0 hN) rfl) (Nat.le_of_ble_eq_true rfl) rfl rfl (Nat.le_of_ble_eq_true rfl) (fun r1 m2 => ?_)
  refine zs_istore_n [(3, .int r1), (0, .ref (zz_a G 0)), (1, .int v1), (2, .int v2)] dX12_readFlow_85 rfl (Nat.le_of_ble_eq_true rfl) rfl ?_
  refine zs_aload_n dX12_readFlow_86 rfl 1 rfl ?_
  refine zs_getI fl_X12_147 dX12_readFlow_87 (shm_0 hN) rfl ?_
  refine zs_if_eq (tgt := 94) dX12_readFlow_90 (by decide) ?_ ?_
  · refine zs_aload_n dX12_readFlow_94 rfl 1 rfl ?_
    refine zs_getR fl_X12_24 dX12_readFlow_95 (shm_0 hN) rfl ?_
    refine zs_bipush (v := (75 : Int32)) dX12_readFlow_98 cb_75 ?_
    refine zs_iload_n dX12_readFlow_100 rfl 2 rfl ?_
    refine zs_iadd dX12_readFlow_101 ?_
    refine zs_iload_n dX12_readFlow_102 rfl 3 rfl ?_
    refine zs_if_eq (tgt := 111) dX12_readFlow_103 (by decide) ?_ ?_
    · refine zs_iload_n dX12_readFlow_111 rfl 0 rfl ?_
      refine zs_sub [1] rfl ?_
      exact t_X12_readFlow_112 hN _ _ _
    · refine zs_iload_n dX12_readFlow_106 rfl 0 rfl ?_
      refine zs_ineg dX12_readFlow_107 ?_
      refine zs_goto (tgt := 112) dX12_readFlow_108 (by decide) ?_
      refine zs_sub [1] rfl ?_
      exact t_X12_readFlow_112 hN _ _ _
  · exact zs_vret dX12_readFlow_93 rfl rfl rfl
def f_X12_readFlow_18   (v1 : Int32) (m : zz_Mem) : Option zz_Mem :=
  if (m.1 0 11) = 0 then (
  zz_bndR (f_X12_next m) fun m1 =>
  zz_bnd (f_X12_takes (0 : Int32) (999 : Int32) m1) fun r2 m3 =>
  zz_ix ((56 : Int32) + v1) 1177 <| zz_letM (zz_setI m3 4 ((56 : Int32) + v1).toNatClampNeg r2) fun m4 =>
  zz_bndR (f_X12_is m4 (12 : Int32)) fun r5 =>
  zz_bnd (f_X12_eats (11 : Int32) m4) fun r6 m7 =>
  if r6 = 0 then (
  zz_bnd (f_X12_eats (12 : Int32) m7) fun r8 m9 =>
  if r8 = 0 then (
  zz_bndR (f_X12_fails (2 : Int32) m9) fun m10 =>
  f_X12_readFlow_77 v1 r5 m10)
  else (
  f_X12_readFlow_77 v1 r5 m9))
  else (
  f_X12_readFlow_77 v1 r5 m7))
  else (
  some m)
theorem t_X12_readFlow_18 {l : Launch} {G : zz_G} (hN : 26 ≤ zz_N G)  : ∀ (v1 : Int32) (m : zz_Mem), zz_Sim zz_shM l G mX12_readFlow 7 zz_vV zz_mV (f_X12_readFlow_18 v1 m) 18 [(0, .ref (zz_a G 0)), (1, .int v1)] [] m := by
  intro v1 m
  unfold f_X12_readFlow_18
  refine zs_aload_n dX12_readFlow_18 rfl 0 rfl ?_
  refine zs_getI fl_X12_147 dX12_readFlow_19 (shm_0 hN) rfl ?_
  refine zs_if_eq (tgt := 26) dX12_readFlow_22 (by decide) ?_ ?_
  · refine zs_aload_n dX12_readFlow_26 rfl 0 rfl ?_
    refine zs_cV_vW (rest := []) (k_X12_next hN  _) dX12_readFlow_27 lv_X12_156 ok_X12_next (zz_rcv_o (shm_0 hN) rfl) (Nat.le_of_ble_eq_true rfl) rfl rfl (Nat.le_of_ble_eq_true rfl) (fun m1 => ?_)
    refine zs_aload_n dX12_readFlow_30 rfl 0 rfl ?_
    refine zs_getR fl_X12_24 dX12_readFlow_31 (shm_0 hN) rfl ?_
    refine zs_bipush (v := (56 : Int32)) dX12_readFlow_34 cb_56 ?_
    refine zs_iload_n dX12_readFlow_36 rfl 1 rfl ?_
    refine zs_iadd dX12_readFlow_37 ?_
    refine zs_aload_n dX12_readFlow_38 rfl 0 rfl ?_
    refine zs_iconst (v := (0 : Int32)) dX12_readFlow_39 ci_0 ?_
    refine zs_sipush (v := (999 : Int32)) dX12_readFlow_40 cs_999 ?_
    refine zs_cV_iW (rest := [.int ((56 : Int32) + v1), .ref (zz_a G 4)]) (k_X12_takes hN _ _ _) dX12_readFlow_43 lv_X12_203 ok_X12_takes (zz_rcv_o (shm_0 hN) rfl) (Nat.le_of_ble_eq_true rfl) rfl rfl (Nat.le_of_ble_eq_true rfl) (fun r2 m3 => ?_)
    refine zs_iastG dX12_readFlow_46 (shm_4 hN) (fun m4 => ?_)
    refine zs_aload_n dX12_readFlow_47 rfl 0 rfl ?_
    refine zs_bipush (v := (12 : Int32)) dX12_readFlow_48 cb_12 ?_
    refine zs_cV_iR (rest := []) (k_X12_is hN _ _) dX12_readFlow_50 lv_X12_153 ok_X12_is (zz_rcv_o (shm_0 hN) rfl) (Nat.le_of_ble_eq_true rfl) rfl rfl (Nat.le_of_ble_eq_true rfl) (fun r5 => ?_)
    refine zs_istore_n [(2, .int r5), (0, .ref (zz_a G 0)), (1, .int v1)] dX12_readFlow_53 rfl (Nat.le_of_ble_eq_true rfl) rfl ?_
    refine zs_aload_n dX12_readFlow_54 rfl 1 rfl ?_
    refine zs_bipush (v := (11 : Int32)) dX12_readFlow_55 cb_11 ?_
    refine zs_cV_iW (rest := []) (k_X12_eats hN _ _) dX12_readFlow_57 lv_X12_182 ok_X12_eats (zz_rcv_o (shm_0 hN) rfl) (Nat.le_of_ble_eq_true rfl) rfl rfl (Nat.le_of_ble_eq_true rfl) (fun r6 m7 => ?_)
    refine zs_if_ne (tgt := 77) dX12_readFlow_60 (by decide) ?_ ?_
    · refine zs_sub [1, 2, 0] rfl ?_
      exact t_X12_readFlow_77 hN _ _ _
    · refine zs_aload_n dX12_readFlow_63 rfl 1 rfl ?_
      refine zs_bipush (v := (12 : Int32)) dX12_readFlow_64 cb_12 ?_
      refine zs_cV_iW (rest := []) (k_X12_eats hN _ _) dX12_readFlow_66 lv_X12_182 ok_X12_eats (zz_rcv_o (shm_0 hN) rfl) (Nat.le_of_ble_eq_true rfl) rfl rfl (Nat.le_of_ble_eq_true rfl) (fun r8 m9 => ?_)
      refine zs_if_ne (tgt := 77) dX12_readFlow_69 (by decide) ?_ ?_
      · refine zs_sub [1, 2, 0] rfl ?_
        exact t_X12_readFlow_77 hN _ _ _
      · refine zs_aload_n dX12_readFlow_72 rfl 1 rfl ?_
        refine zs_iconst (v := (2 : Int32)) dX12_readFlow_73 ci_2 ?_
        refine zs_cV_vW (rest := []) (k_X12_fails hN _ _) dX12_readFlow_74 lv_X12_159 ok_X12_fails (zz_rcv_o (shm_0 hN) rfl) (Nat.le_of_ble_eq_true rfl) rfl rfl (Nat.le_of_ble_eq_true rfl) (fun m10 => ?_)
        refine zs_sub [1, 2, 0] rfl ?_
        exact t_X12_readFlow_77 hN _ _ _
  · exact zs_vret dX12_readFlow_25 rfl rfl rfl
def f_X12_readFlow   (m : zz_Mem) : Option zz_Mem :=
  zz_letI (m.1 4 5) fun x1 =>
  if x1 = (10 : Int32) then (
  zz_bndR (f_X12_fails (4 : Int32) m) fun m2 =>
  f_X12_readFlow_18 x1 m2)
  else (
  f_X12_readFlow_18 x1 m)
theorem k_X12_readFlow {l : Launch} {G : zz_G} (hN : 26 ≤ zz_N G) : ∀ (m : zz_Mem), zz_Con zz_shM l G mX12_readFlow 7 [.ref (zz_a G 0)] zz_vV zz_mV (f_X12_readFlow m) m := by
  intro m
  refine zz_con (lv := [(0, .ref (zz_a G 0))]) (by decide +kernel) (Nat.le_of_ble_eq_true rfl) rfl ?_
  unfold f_X12_readFlow
  refine zs_aload_n dX12_readFlow_0 rfl 0 rfl ?_
  refine zs_getR fl_X12_24 dX12_readFlow_1 (shm_0 hN) rfl ?_
  refine zs_iconst (v := (5 : Int32)) dX12_readFlow_4 ci_5 ?_
  refine zs_ialdC dX12_readFlow_5 (shm_4 hN) vin_5_1177 clp_5 ?_
  refine zs_letI (fun x1 => ?_)
  refine zs_istore_n [(1, .int x1), (0, .ref (zz_a G 0))] dX12_readFlow_6 rfl (Nat.le_of_ble_eq_true rfl) rfl ?_
  refine zs_iload_n dX12_readFlow_7 rfl 0 rfl ?_
  refine zs_bipush (v := (10 : Int32)) dX12_readFlow_8 cb_10 ?_
  refine zs_icmp_ne (tgt := 18) dX12_readFlow_10 (by decide) ?_ ?_
  · refine zs_sub [1, 0] rfl ?_
    exact t_X12_readFlow_18 hN _ _
  · refine zs_aload_n dX12_readFlow_13 rfl 1 rfl ?_
    refine zs_iconst (v := (4 : Int32)) dX12_readFlow_14 ci_4 ?_
    refine zs_cV_vW (rest := []) (k_X12_fails hN _ _) dX12_readFlow_15 lv_X12_159 ok_X12_fails (zz_rcv_o (shm_0 hN) rfl) (Nat.le_of_ble_eq_true rfl) rfl rfl (Nat.le_of_ble_eq_true rfl) (fun m2 => ?_)
    refine zs_sub [1, 0] rfl ?_
    exact t_X12_readFlow_18 hN _ _
/-! X12_readLaw: PillarDeskModel.readLaw(I)V -/
theorem dX12_readLaw_0 : decode cX12_readLaw 0 = .ok (.aload_n 0, 1) := by decide +kernel
theorem dX12_readLaw_1 : decode cX12_readLaw 1 = .ok (.invokevirtual 156, 3) := by decide +kernel
theorem dX12_readLaw_4 : decode cX12_readLaw 4 = .ok (.aload_n 0, 1) := by decide +kernel
theorem dX12_readLaw_5 : decode cX12_readLaw 5 = .ok (.bipush 33, 2) := by decide +kernel
theorem dX12_readLaw_7 : decode cX12_readLaw 7 = .ok (.invokevirtual 182, 3) := by decide +kernel
theorem dX12_readLaw_10 : decode cX12_readLaw 10 = .ok (.ifCond .ne 8, 3) := by decide +kernel
theorem dX12_readLaw_13 : decode cX12_readLaw 13 = .ok (.aload_n 0, 1) := by decide +kernel
theorem dX12_readLaw_14 : decode cX12_readLaw 14 = .ok (.iconst 2, 1) := by decide +kernel
theorem dX12_readLaw_15 : decode cX12_readLaw 15 = .ok (.invokevirtual 159, 3) := by decide +kernel
theorem dX12_readLaw_18 : decode cX12_readLaw 18 = .ok (.aload_n 0, 1) := by decide +kernel
theorem dX12_readLaw_19 : decode cX12_readLaw 19 = .ok (.getfield 24, 3) := by decide +kernel
theorem dX12_readLaw_22 : decode cX12_readLaw 22 = .ok (.sipush 276, 3) := by decide +kernel
theorem dX12_readLaw_25 : decode cX12_readLaw 25 = .ok (.iaload, 1) := by decide +kernel
theorem dX12_readLaw_26 : decode cX12_readLaw 26 = .ok (.istore_n 2, 1) := by decide +kernel
theorem dX12_readLaw_27 : decode cX12_readLaw 27 = .ok (.aload_n 0, 1) := by decide +kernel
theorem dX12_readLaw_28 : decode cX12_readLaw 28 = .ok (.iload_n 1, 1) := by decide +kernel
theorem dX12_readLaw_29 : decode cX12_readLaw 29 = .ok (.putfield 167, 3) := by decide +kernel
theorem dX12_readLaw_32 : decode cX12_readLaw 32 = .ok (.iload_n 1, 1) := by decide +kernel
theorem dX12_readLaw_33 : decode cX12_readLaw 33 = .ok (.ifCond .ne 11, 3) := by decide +kernel
theorem dX12_readLaw_36 : decode cX12_readLaw 36 = .ok (.aload_n 0, 1) := by decide +kernel
theorem dX12_readLaw_37 : decode cX12_readLaw 37 = .ok (.iconst 0, 1) := by decide +kernel
theorem dX12_readLaw_38 : decode cX12_readLaw 38 = .ok (.invokevirtual 179, 3) := by decide +kernel
theorem dX12_readLaw_41 : decode cX12_readLaw 41 = .ok (.goto 8, 3) := by decide +kernel
theorem dX12_readLaw_44 : decode cX12_readLaw 44 = .ok (.aload_n 0, 1) := by decide +kernel
theorem dX12_readLaw_45 : decode cX12_readLaw 45 = .ok (.iconst 0, 1) := by decide +kernel
theorem dX12_readLaw_46 : decode cX12_readLaw 46 = .ok (.invokevirtual 188, 3) := by decide +kernel
theorem dX12_readLaw_49 : decode cX12_readLaw 49 = .ok (.aload_n 0, 1) := by decide +kernel
theorem dX12_readLaw_50 : decode cX12_readLaw 50 = .ok (.getfield 147, 3) := by decide +kernel
theorem dX12_readLaw_53 : decode cX12_readLaw 53 = .ok (.ifCond .eq 4, 3) := by decide +kernel
theorem dX12_readLaw_56 : decode cX12_readLaw 56 = .ok (.return_, 1) := by decide +kernel
theorem dX12_readLaw_57 : decode cX12_readLaw 57 = .ok (.aload_n 0, 1) := by decide +kernel
theorem dX12_readLaw_58 : decode cX12_readLaw 58 = .ok (.getfield 24, 3) := by decide +kernel
theorem dX12_readLaw_61 : decode cX12_readLaw 61 = .ok (.bipush 6, 2) := by decide +kernel
theorem dX12_readLaw_63 : decode cX12_readLaw 63 = .ok (.iload_n 1, 1) := by decide +kernel
theorem dX12_readLaw_64 : decode cX12_readLaw 64 = .ok (.iadd, 1) := by decide +kernel
theorem dX12_readLaw_65 : decode cX12_readLaw 65 = .ok (.iconst 1, 1) := by decide +kernel
theorem dX12_readLaw_66 : decode cX12_readLaw 66 = .ok (.iastore, 1) := by decide +kernel
theorem dX12_readLaw_67 : decode cX12_readLaw 67 = .ok (.aload_n 0, 1) := by decide +kernel
theorem dX12_readLaw_68 : decode cX12_readLaw 68 = .ok (.getfield 24, 3) := by decide +kernel
theorem dX12_readLaw_71 : decode cX12_readLaw 71 = .ok (.bipush 8, 2) := by decide +kernel
theorem dX12_readLaw_73 : decode cX12_readLaw 73 = .ok (.iload_n 1, 1) := by decide +kernel
theorem dX12_readLaw_74 : decode cX12_readLaw 74 = .ok (.iadd, 1) := by decide +kernel
theorem dX12_readLaw_75 : decode cX12_readLaw 75 = .ok (.iload_n 2, 1) := by decide +kernel
theorem dX12_readLaw_76 : decode cX12_readLaw 76 = .ok (.iastore, 1) := by decide +kernel
theorem dX12_readLaw_77 : decode cX12_readLaw 77 = .ok (.aload_n 0, 1) := by decide +kernel
theorem dX12_readLaw_78 : decode cX12_readLaw 78 = .ok (.getfield 24, 3) := by decide +kernel
theorem dX12_readLaw_81 : decode cX12_readLaw 81 = .ok (.bipush 10, 2) := by decide +kernel
theorem dX12_readLaw_83 : decode cX12_readLaw 83 = .ok (.iload_n 1, 1) := by decide +kernel
theorem dX12_readLaw_84 : decode cX12_readLaw 84 = .ok (.iadd, 1) := by decide +kernel
theorem dX12_readLaw_85 : decode cX12_readLaw 85 = .ok (.aload_n 0, 1) := by decide +kernel
theorem dX12_readLaw_86 : decode cX12_readLaw 86 = .ok (.getfield 24, 3) := by decide +kernel
theorem dX12_readLaw_89 : decode cX12_readLaw 89 = .ok (.sipush 276, 3) := by decide +kernel
theorem dX12_readLaw_92 : decode cX12_readLaw 92 = .ok (.iaload, 1) := by decide +kernel
theorem dX12_readLaw_93 : decode cX12_readLaw 93 = .ok (.iload_n 2, 1) := by decide +kernel
theorem dX12_readLaw_94 : decode cX12_readLaw 94 = .ok (.isub, 1) := by decide +kernel
theorem dX12_readLaw_95 : decode cX12_readLaw 95 = .ok (.iastore, 1) := by decide +kernel
theorem dX12_readLaw_96 : decode cX12_readLaw 96 = .ok (.return_, 1) := by decide +kernel
def f_X12_readLaw_49   (v1 : Int32) (v2 : Int32) (m : zz_Mem) : Option zz_Mem :=
  if (m.1 0 11) = 0 then (
  zz_ix ((6 : Int32) + v1) 1177 <| zz_letM (zz_setI m 4 ((6 : Int32) + v1).toNatClampNeg (1 : Int32)) fun m1 =>
  zz_ix ((8 : Int32) + v1) 1177 <| zz_letM (zz_setI m1 4 ((8 : Int32) + v1).toNatClampNeg v2) fun m2 =>
  zz_ix ((10 : Int32) + v1) 1177 <| zz_letM (zz_setI m2 4 ((10 : Int32) + v1).toNatClampNeg ((m2.1 4 276) - v2)) fun m3 =>
  some m3)
  else (
  some m)
theorem t_X12_readLaw_49 {l : Launch} {G : zz_G} (hN : 26 ≤ zz_N G)  : ∀ (v1 : Int32) (v2 : Int32) (m : zz_Mem), zz_Sim zz_shM l G mX12_readLaw 68 zz_vV zz_mV (f_X12_readLaw_49 v1 v2 m) 49 [(0, .ref (zz_a G 0)), (1, .int v1), (2, .int v2)] [] m := by
  intro v1 v2 m
  unfold f_X12_readLaw_49
  refine zs_aload_n dX12_readLaw_49 rfl 0 rfl ?_
  refine zs_getI fl_X12_147 dX12_readLaw_50 (shm_0 hN) rfl ?_
  refine zs_if_eq (tgt := 57) dX12_readLaw_53 (by decide) ?_ ?_
  · refine zs_aload_n dX12_readLaw_57 rfl 0 rfl ?_
    refine zs_getR fl_X12_24 dX12_readLaw_58 (shm_0 hN) rfl ?_
    refine zs_bipush (v := (6 : Int32)) dX12_readLaw_61 cb_6 ?_
    refine zs_iload_n dX12_readLaw_63 rfl 1 rfl ?_
    refine zs_iadd dX12_readLaw_64 ?_
    refine zs_iconst (v := (1 : Int32)) dX12_readLaw_65 ci_1 ?_
    refine zs_iastG dX12_readLaw_66 (shm_4 hN) (fun m1 => ?_)
    refine zs_aload_n dX12_readLaw_67 rfl 0 rfl ?_
    refine zs_getR fl_X12_24 dX12_readLaw_68 (shm_0 hN) rfl ?_
    refine zs_bipush (v := (8 : Int32)) dX12_readLaw_71 cb_8 ?_
    refine zs_iload_n dX12_readLaw_73 rfl 1 rfl ?_
    refine zs_iadd dX12_readLaw_74 ?_
    refine zs_iload_n dX12_readLaw_75 rfl 2 rfl ?_
    refine zs_iastG dX12_readLaw_76 (shm_4 hN) (fun m2 => ?_)
    refine zs_aload_n dX12_readLaw_77 rfl 0 rfl ?_
    refine zs_getR fl_X12_24 dX12_readLaw_78 (shm_0 hN) rfl ?_
    refine zs_bipush (v := (10 : Int32)) dX12_readLaw_81 cb_10 ?_
    refine zs_iload_n dX12_readLaw_83 rfl 1 rfl ?_
    refine zs_iadd dX12_readLaw_84 ?_
    refine zs_aload_n dX12_readLaw_85 rfl 0 rfl ?_
    refine zs_getR fl_X12_24 dX12_readLaw_86 (shm_0 hN) rfl ?_
    refine zs_sipush (v := (276 : Int32)) dX12_readLaw_89 cs_276 ?_
    refine zs_ialdC dX12_readLaw_92 (shm_4 hN) vin_276_1177 clp_276 ?_
    refine zs_iload_n dX12_readLaw_93 rfl 2 rfl ?_
    refine zs_isub dX12_readLaw_94 ?_
    refine zs_iastG dX12_readLaw_95 (shm_4 hN) (fun m3 => ?_)
    exact zs_vret dX12_readLaw_96 rfl rfl rfl
  · exact zs_vret dX12_readLaw_56 rfl rfl rfl
def f_X12_readLaw_18   (v1 : Int32) (m : zz_Mem) : Option zz_Mem :=
  zz_letI (m.1 4 276) fun x1 =>
  zz_letM (zz_setI m 0 15 v1) fun m2 =>
  if v1 = 0 then (
  zz_bndR (F_X12_readSum (0 : Int32) m2) fun m4 =>
  f_X12_readLaw_49 v1 x1 m4)
  else (
  zz_bndR (F_X12_readTruth (0 : Int32) m2) fun m3 =>
  f_X12_readLaw_49 v1 x1 m3)
theorem t_X12_readLaw_18 {l : Launch} {G : zz_G} (hN : 26 ≤ zz_N G)  : ∀ (v1 : Int32) (m : zz_Mem), zz_Sim zz_shM l G mX12_readLaw 68 zz_vV zz_mV (f_X12_readLaw_18 v1 m) 18 [(0, .ref (zz_a G 0)), (1, .int v1)] [] m := by
  intro v1 m
  unfold f_X12_readLaw_18
  refine zs_aload_n dX12_readLaw_18 rfl 0 rfl ?_
  refine zs_getR fl_X12_24 dX12_readLaw_19 (shm_0 hN) rfl ?_
  refine zs_sipush (v := (276 : Int32)) dX12_readLaw_22 cs_276 ?_
  refine zs_ialdC dX12_readLaw_25 (shm_4 hN) vin_276_1177 clp_276 ?_
  refine zs_letI (fun x1 => ?_)
  refine zs_istore_n [(2, .int x1), (0, .ref (zz_a G 0)), (1, .int v1)] dX12_readLaw_26 rfl (Nat.le_of_ble_eq_true rfl) rfl ?_
  refine zs_aload_n dX12_readLaw_27 rfl 1 rfl ?_
  refine zs_iload_n dX12_readLaw_28 rfl 2 rfl ?_
  refine zs_putI fl_X12_167 dX12_readLaw_29 (shm_0 hN) rfl ⟨rfl, rfl⟩ (fun m2 => ?_)
  refine zs_iload_n dX12_readLaw_32 rfl 2 rfl ?_
  refine zs_if_ne (tgt := 44) dX12_readLaw_33 (by decide) ?_ ?_
  · refine zs_aload_n dX12_readLaw_44 rfl 1 rfl ?_
    refine zs_iconst (v := (0 : Int32)) dX12_readLaw_45 ci_0 ?_
    refine zs_cV_vW (rest := []) (K_X12_readTruth hN _ _) dX12_readLaw_46 lv_X12_188 ok_X12_readTruth (zz_rcv_o (shm_0 hN) rfl) (Nat.le_of_ble_eq_true rfl) rfl rfl (Nat.le_of_ble_eq_true rfl) (fun m3 => ?_)
    refine zs_sub [1, 2, 0] rfl ?_
    exact t_X12_readLaw_49 hN _ _ _
  · refine zs_aload_n dX12_readLaw_36 rfl 1 rfl ?_
    refine zs_iconst (v := (0 : Int32)) dX12_readLaw_37 ci_0 ?_
    refine zs_cV_vW (rest := []) (K_X12_readSum hN _ _) dX12_readLaw_38 lv_X12_179 ok_X12_readSum (zz_rcv_o (shm_0 hN) rfl) (Nat.le_of_ble_eq_true rfl) rfl rfl (Nat.le_of_ble_eq_true rfl) (fun m4 => ?_)
    refine zs_goto (tgt := 49) dX12_readLaw_41 (by decide) ?_
    refine zs_sub [1, 2, 0] rfl ?_
    exact t_X12_readLaw_49 hN _ _ _
def f_X12_readLaw  (p1 : Int32) (m : zz_Mem) : Option zz_Mem :=
  zz_bndR (f_X12_next m) fun m1 =>
  zz_bnd (f_X12_eats (33 : Int32) m1) fun r2 m3 =>
  if r2 = 0 then (
  zz_bndR (f_X12_fails (2 : Int32) m3) fun m4 =>
  f_X12_readLaw_18 p1 m4)
  else (
  f_X12_readLaw_18 p1 m3)
theorem k_X12_readLaw {l : Launch} {G : zz_G} (hN : 26 ≤ zz_N G) : ∀ (p1 : Int32) (m : zz_Mem), zz_Con zz_shM l G mX12_readLaw 68 [.ref (zz_a G 0), .int p1] zz_vV zz_mV (f_X12_readLaw p1 m) m := by
  intro p1 m
  refine zz_con (lv := [(0, .ref (zz_a G 0)), (1, .int p1)]) (by decide +kernel) (Nat.le_of_ble_eq_true rfl) rfl ?_
  unfold f_X12_readLaw
  refine zs_aload_n dX12_readLaw_0 rfl 0 rfl ?_
  refine zs_cV_vW (rest := []) (k_X12_next hN  _) dX12_readLaw_1 lv_X12_156 ok_X12_next (zz_rcv_o (shm_0 hN) rfl) (Nat.le_of_ble_eq_true rfl) rfl rfl (Nat.le_of_ble_eq_true rfl) (fun m1 => ?_)
  refine zs_aload_n dX12_readLaw_4 rfl 0 rfl ?_
  refine zs_bipush (v := (33 : Int32)) dX12_readLaw_5 cb_33 ?_
  refine zs_cV_iW (rest := []) (k_X12_eats hN _ _) dX12_readLaw_7 lv_X12_182 ok_X12_eats (zz_rcv_o (shm_0 hN) rfl) (Nat.le_of_ble_eq_true rfl) rfl rfl (Nat.le_of_ble_eq_true rfl) (fun r2 m3 => ?_)
  refine zs_if_ne (tgt := 18) dX12_readLaw_10 (by decide) ?_ ?_
  · exact t_X12_readLaw_18 hN _ _
  · refine zs_aload_n dX12_readLaw_13 rfl 0 rfl ?_
    refine zs_iconst (v := (2 : Int32)) dX12_readLaw_14 ci_2 ?_
    refine zs_cV_vW (rest := []) (k_X12_fails hN _ _) dX12_readLaw_15 lv_X12_159 ok_X12_fails (zz_rcv_o (shm_0 hN) rfl) (Nat.le_of_ble_eq_true rfl) rfl rfl (Nat.le_of_ble_eq_true rfl) (fun m4 => ?_)
    exact t_X12_readLaw_18 hN _ _
/-! X12_readLine: PillarDeskModel.readLine()V -/
theorem dX12_readLine_0 : decode cX12_readLine 0 = .ok (.aload_n 0, 1) := by decide +kernel
theorem dX12_readLine_1 : decode cX12_readLine 1 = .ok (.getfield 147, 3) := by decide +kernel
theorem dX12_readLine_4 : decode cX12_readLine 4 = .ok (.ifCond .eq 4, 3) := by decide +kernel
theorem dX12_readLine_7 : decode cX12_readLine 7 = .ok (.return_, 1) := by decide +kernel
theorem dX12_readLine_8 : decode cX12_readLine 8 = .ok (.aload_n 0, 1) := by decide +kernel
theorem dX12_readLine_9 : decode cX12_readLine 9 = .ok (.iconst 4, 1) := by decide +kernel
theorem dX12_readLine_10 : decode cX12_readLine 10 = .ok (.invokevirtual 153, 3) := by decide +kernel
theorem dX12_readLine_13 : decode cX12_readLine 13 = .ok (.ifCond .eq 10, 3) := by decide +kernel
theorem dX12_readLine_16 : decode cX12_readLine 16 = .ok (.aload_n 0, 1) := by decide +kernel
theorem dX12_readLine_17 : decode cX12_readLine 17 = .ok (.invokevirtual 211, 3) := by decide +kernel
theorem dX12_readLine_20 : decode cX12_readLine 20 = .ok (.goto 89, 3) := by decide +kernel
theorem dX12_readLine_23 : decode cX12_readLine 23 = .ok (.aload_n 0, 1) := by decide +kernel
theorem dX12_readLine_24 : decode cX12_readLine 24 = .ok (.iconst 5, 1) := by decide +kernel
theorem dX12_readLine_25 : decode cX12_readLine 25 = .ok (.invokevirtual 153, 3) := by decide +kernel
theorem dX12_readLine_28 : decode cX12_readLine 28 = .ok (.ifCond .ne 21, 3) := by decide +kernel
theorem dX12_readLine_31 : decode cX12_readLine 31 = .ok (.aload_n 0, 1) := by decide +kernel
theorem dX12_readLine_32 : decode cX12_readLine 32 = .ok (.bipush 7, 2) := by decide +kernel
theorem dX12_readLine_34 : decode cX12_readLine 34 = .ok (.invokevirtual 153, 3) := by decide +kernel
theorem dX12_readLine_37 : decode cX12_readLine 37 = .ok (.ifCond .ne 12, 3) := by decide +kernel
theorem dX12_readLine_40 : decode cX12_readLine 40 = .ok (.aload_n 0, 1) := by decide +kernel
theorem dX12_readLine_41 : decode cX12_readLine 41 = .ok (.bipush 8, 2) := by decide +kernel
theorem dX12_readLine_43 : decode cX12_readLine 43 = .ok (.invokevirtual 153, 3) := by decide +kernel
theorem dX12_readLine_46 : decode cX12_readLine 46 = .ok (.ifCond .eq 10, 3) := by decide +kernel
theorem dX12_readLine_49 : decode cX12_readLine 49 = .ok (.aload_n 0, 1) := by decide +kernel
theorem dX12_readLine_50 : decode cX12_readLine 50 = .ok (.invokevirtual 214, 3) := by decide +kernel
theorem dX12_readLine_53 : decode cX12_readLine 53 = .ok (.goto 56, 3) := by decide +kernel
theorem dX12_readLine_56 : decode cX12_readLine 56 = .ok (.aload_n 0, 1) := by decide +kernel
theorem dX12_readLine_57 : decode cX12_readLine 57 = .ok (.bipush 10, 2) := by decide +kernel
theorem dX12_readLine_59 : decode cX12_readLine 59 = .ok (.invokevirtual 153, 3) := by decide +kernel
theorem dX12_readLine_62 : decode cX12_readLine 62 = .ok (.ifCond .eq 10, 3) := by decide +kernel
theorem dX12_readLine_65 : decode cX12_readLine 65 = .ok (.aload_n 0, 1) := by decide +kernel
theorem dX12_readLine_66 : decode cX12_readLine 66 = .ok (.invokevirtual 217, 3) := by decide +kernel
theorem dX12_readLine_69 : decode cX12_readLine 69 = .ok (.goto 40, 3) := by decide +kernel
theorem dX12_readLine_72 : decode cX12_readLine 72 = .ok (.aload_n 0, 1) := by decide +kernel
theorem dX12_readLine_73 : decode cX12_readLine 73 = .ok (.bipush 13, 2) := by decide +kernel
theorem dX12_readLine_75 : decode cX12_readLine 75 = .ok (.invokevirtual 153, 3) := by decide +kernel
theorem dX12_readLine_78 : decode cX12_readLine 78 = .ok (.ifCond .ne 12, 3) := by decide +kernel
theorem dX12_readLine_81 : decode cX12_readLine 81 = .ok (.aload_n 0, 1) := by decide +kernel
theorem dX12_readLine_82 : decode cX12_readLine 82 = .ok (.bipush 14, 2) := by decide +kernel
theorem dX12_readLine_84 : decode cX12_readLine 84 = .ok (.invokevirtual 153, 3) := by decide +kernel
theorem dX12_readLine_87 : decode cX12_readLine 87 = .ok (.ifCond .eq 17, 3) := by decide +kernel
theorem dX12_readLine_90 : decode cX12_readLine 90 = .ok (.aload_n 0, 1) := by decide +kernel
theorem dX12_readLine_91 : decode cX12_readLine 91 = .ok (.aload_n 0, 1) := by decide +kernel
theorem dX12_readLine_92 : decode cX12_readLine 92 = .ok (.getfield 129, 3) := by decide +kernel
theorem dX12_readLine_95 : decode cX12_readLine 95 = .ok (.bipush 13, 2) := by decide +kernel
theorem dX12_readLine_97 : decode cX12_readLine 97 = .ok (.isub, 1) := by decide +kernel
theorem dX12_readLine_98 : decode cX12_readLine 98 = .ok (.invokevirtual 220, 3) := by decide +kernel
theorem dX12_readLine_101 : decode cX12_readLine 101 = .ok (.goto 8, 3) := by decide +kernel
theorem dX12_readLine_104 : decode cX12_readLine 104 = .ok (.aload_n 0, 1) := by decide +kernel
theorem dX12_readLine_105 : decode cX12_readLine 105 = .ok (.iconst 2, 1) := by decide +kernel
theorem dX12_readLine_106 : decode cX12_readLine 106 = .ok (.invokevirtual 159, 3) := by decide +kernel
theorem dX12_readLine_109 : decode cX12_readLine 109 = .ok (.return_, 1) := by decide +kernel
def f_X12_readLine_90   (m : zz_Mem) : Option zz_Mem :=
  zz_bndR (f_X12_readLaw ((m.1 0 9) - (13 : Int32)) m) fun m1 =>
  some m1
theorem t_X12_readLine_90 {l : Launch} {G : zz_G} (hN : 26 ≤ zz_N G)  : ∀ (m : zz_Mem), zz_Sim zz_shM l G mX12_readLine 69 zz_vV zz_mV (f_X12_readLine_90 m) 90 [(0, .ref (zz_a G 0))] [] m := by
  intro m
  unfold f_X12_readLine_90
  refine zs_aload_n dX12_readLine_90 rfl 0 rfl ?_
  refine zs_aload_n dX12_readLine_91 rfl 0 rfl ?_
  refine zs_getI fl_X12_129 dX12_readLine_92 (shm_0 hN) rfl ?_
  refine zs_bipush (v := (13 : Int32)) dX12_readLine_95 cb_13 ?_
  refine zs_isub dX12_readLine_97 ?_
  refine zs_cV_vW (rest := []) (k_X12_readLaw hN _ _) dX12_readLine_98 lv_X12_220 ok_X12_readLaw (zz_rcv_o (shm_0 hN) rfl) (Nat.le_of_ble_eq_true rfl) rfl rfl (Nat.le_of_ble_eq_true rfl) (fun m1 => ?_)
  refine zs_goto (tgt := 109) dX12_readLine_101 (by decide) ?_
  exact zs_vret dX12_readLine_109 rfl rfl rfl
def f_X12_readLine_49   (m : zz_Mem) : Option zz_Mem :=
  zz_bndR (f_X12_readInput m) fun m1 =>
  some m1
theorem t_X12_readLine_49 {l : Launch} {G : zz_G} (hN : 26 ≤ zz_N G)  : ∀ (m : zz_Mem), zz_Sim zz_shM l G mX12_readLine 69 zz_vV zz_mV (f_X12_readLine_49 m) 49 [(0, .ref (zz_a G 0))] [] m := by
  intro m
  unfold f_X12_readLine_49
  refine zs_aload_n dX12_readLine_49 rfl 0 rfl ?_
  refine zs_cV_vW (rest := []) (k_X12_readInput hN  _) dX12_readLine_50 lv_X12_214 ok_X12_readInput (zz_rcv_o (shm_0 hN) rfl) (Nat.le_of_ble_eq_true rfl) rfl rfl (Nat.le_of_ble_eq_true rfl) (fun m1 => ?_)
  refine zs_goto (tgt := 109) dX12_readLine_53 (by decide) ?_
  exact zs_vret dX12_readLine_109 rfl rfl rfl
def f_X12_readLine   (m : zz_Mem) : Option zz_Mem :=
  if (m.1 0 11) = 0 then (
  zz_bndR (f_X12_is m (4 : Int32)) fun r1 =>
  if r1 = 0 then (
  zz_bndR (f_X12_is m (5 : Int32)) fun r2 =>
  if r2 = 0 then (
  zz_bndR (f_X12_is m (7 : Int32)) fun r3 =>
  if r3 = 0 then (
  zz_bndR (f_X12_is m (8 : Int32)) fun r4 =>
  if r4 = 0 then (
  zz_bndR (f_X12_is m (10 : Int32)) fun r5 =>
  if r5 = 0 then (
  zz_bndR (f_X12_is m (13 : Int32)) fun r6 =>
  if r6 = 0 then (
  zz_bndR (f_X12_is m (14 : Int32)) fun r7 =>
  if r7 = 0 then (
  zz_bndR (f_X12_fails (2 : Int32) m) fun m8 =>
  some m8)
  else (
  f_X12_readLine_90 m))
  else (
  f_X12_readLine_90 m))
  else (
  zz_bndR (f_X12_readFlow m) fun m9 =>
  some m9))
  else (
  f_X12_readLine_49 m))
  else (
  f_X12_readLine_49 m))
  else (
  f_X12_readLine_49 m))
  else (
  zz_bndR (f_X12_readHoliday m) fun m10 =>
  some m10))
  else (
  some m)
theorem k_X12_readLine {l : Launch} {G : zz_G} (hN : 26 ≤ zz_N G) : ∀ (m : zz_Mem), zz_Con zz_shM l G mX12_readLine 69 [.ref (zz_a G 0)] zz_vV zz_mV (f_X12_readLine m) m := by
  intro m
  refine zz_con (lv := [(0, .ref (zz_a G 0))]) (by decide +kernel) (Nat.le_of_ble_eq_true rfl) rfl ?_
  unfold f_X12_readLine
  refine zs_aload_n dX12_readLine_0 rfl 0 rfl ?_
  refine zs_getI fl_X12_147 dX12_readLine_1 (shm_0 hN) rfl ?_
  refine zs_if_eq (tgt := 8) dX12_readLine_4 (by decide) ?_ ?_
  · refine zs_aload_n dX12_readLine_8 rfl 0 rfl ?_
    refine zs_iconst (v := (4 : Int32)) dX12_readLine_9 ci_4 ?_
    refine zs_cV_iR (rest := []) (k_X12_is hN _ _) dX12_readLine_10 lv_X12_153 ok_X12_is (zz_rcv_o (shm_0 hN) rfl) (Nat.le_of_ble_eq_true rfl) rfl rfl (Nat.le_of_ble_eq_true rfl) (fun r1 => ?_)
    refine zs_if_eq (tgt := 23) dX12_readLine_13 (by decide) ?_ ?_
    · refine zs_aload_n dX12_readLine_23 rfl 0 rfl ?_
      refine zs_iconst (v := (5 : Int32)) dX12_readLine_24 ci_5 ?_
      refine zs_cV_iR (rest := []) (k_X12_is hN _ _) dX12_readLine_25 lv_X12_153 ok_X12_is (zz_rcv_o (shm_0 hN) rfl) (Nat.le_of_ble_eq_true rfl) rfl rfl (Nat.le_of_ble_eq_true rfl) (fun r2 => ?_)
      refine zs_if_ne (tgt := 49) dX12_readLine_28 (by decide) ?_ ?_
      · exact t_X12_readLine_49 hN _
      · refine zs_aload_n dX12_readLine_31 rfl 0 rfl ?_
        refine zs_bipush (v := (7 : Int32)) dX12_readLine_32 cb_7 ?_
        refine zs_cV_iR (rest := []) (k_X12_is hN _ _) dX12_readLine_34 lv_X12_153 ok_X12_is (zz_rcv_o (shm_0 hN) rfl) (Nat.le_of_ble_eq_true rfl) rfl rfl (Nat.le_of_ble_eq_true rfl) (fun r3 => ?_)
        refine zs_if_ne (tgt := 49) dX12_readLine_37 (by decide) ?_ ?_
        · exact t_X12_readLine_49 hN _
        · refine zs_aload_n dX12_readLine_40 rfl 0 rfl ?_
          refine zs_bipush (v := (8 : Int32)) dX12_readLine_41 cb_8 ?_
          refine zs_cV_iR (rest := []) (k_X12_is hN _ _) dX12_readLine_43 lv_X12_153 ok_X12_is (zz_rcv_o (shm_0 hN) rfl) (Nat.le_of_ble_eq_true rfl) rfl rfl (Nat.le_of_ble_eq_true rfl) (fun r4 => ?_)
          refine zs_if_eq (tgt := 56) dX12_readLine_46 (by decide) ?_ ?_
          · refine zs_aload_n dX12_readLine_56 rfl 0 rfl ?_
            refine zs_bipush (v := (10 : Int32)) dX12_readLine_57 cb_10 ?_
            refine zs_cV_iR (rest := []) (k_X12_is hN _ _) dX12_readLine_59 lv_X12_153 ok_X12_is (zz_rcv_o (shm_0 hN) rfl) (Nat.le_of_ble_eq_true rfl) rfl rfl (Nat.le_of_ble_eq_true rfl) (fun r5 => ?_)
            refine zs_if_eq (tgt := 72) dX12_readLine_62 (by decide) ?_ ?_
            · refine zs_aload_n dX12_readLine_72 rfl 0 rfl ?_
              refine zs_bipush (v := (13 : Int32)) dX12_readLine_73 cb_13 ?_
              refine zs_cV_iR (rest := []) (k_X12_is hN _ _) dX12_readLine_75 lv_X12_153 ok_X12_is (zz_rcv_o (shm_0 hN) rfl) (Nat.le_of_ble_eq_true rfl) rfl rfl (Nat.le_of_ble_eq_true rfl) (fun r6 => ?_)
              refine zs_if_ne (tgt := 90) dX12_readLine_78 (by decide) ?_ ?_
              · exact t_X12_readLine_90 hN _
              · refine zs_aload_n dX12_readLine_81 rfl 0 rfl ?_
                refine zs_bipush (v := (14 : Int32)) dX12_readLine_82 cb_14 ?_
                refine zs_cV_iR (rest := []) (k_X12_is hN _ _) dX12_readLine_84 lv_X12_153 ok_X12_is (zz_rcv_o (shm_0 hN) rfl) (Nat.le_of_ble_eq_true rfl) rfl rfl (Nat.le_of_ble_eq_true rfl) (fun r7 => ?_)
                refine zs_if_eq (tgt := 104) dX12_readLine_87 (by decide) ?_ ?_
                · refine zs_aload_n dX12_readLine_104 rfl 0 rfl ?_
                  refine zs_iconst (v := (2 : Int32)) dX12_readLine_105 ci_2 ?_
                  refine zs_cV_vW (rest := []) (k_X12_fails hN _ _) dX12_readLine_106 lv_X12_159 ok_X12_fails (zz_rcv_o (shm_0 hN) rfl) (Nat.le_of_ble_eq_true rfl) rfl rfl (Nat.le_of_ble_eq_true rfl) (fun m8 => ?_)
                  exact zs_vret dX12_readLine_109 rfl rfl rfl
                · exact t_X12_readLine_90 hN _
            · refine zs_aload_n dX12_readLine_65 rfl 0 rfl ?_
              refine zs_cV_vW (rest := []) (k_X12_readFlow hN  _) dX12_readLine_66 lv_X12_217 ok_X12_readFlow (zz_rcv_o (shm_0 hN) rfl) (Nat.le_of_ble_eq_true rfl) rfl rfl (Nat.le_of_ble_eq_true rfl) (fun m9 => ?_)
              refine zs_goto (tgt := 109) dX12_readLine_69 (by decide) ?_
              exact zs_vret dX12_readLine_109 rfl rfl rfl
          · exact t_X12_readLine_49 hN _
    · refine zs_aload_n dX12_readLine_16 rfl 0 rfl ?_
      refine zs_cV_vW (rest := []) (k_X12_readHoliday hN  _) dX12_readLine_17 lv_X12_211 ok_X12_readHoliday (zz_rcv_o (shm_0 hN) rfl) (Nat.le_of_ble_eq_true rfl) rfl rfl (Nat.le_of_ble_eq_true rfl) (fun m10 => ?_)
      refine zs_goto (tgt := 109) dX12_readLine_20 (by decide) ?_
      exact zs_vret dX12_readLine_109 rfl rfl rfl
  · exact zs_vret dX12_readLine_7 rfl rfl rfl
/-! X12_closes: PillarDeskModel.closes()V -/
theorem dX12_closes_0 : decode cX12_closes 0 = .ok (.aload_n 0, 1) := by decide +kernel
theorem dX12_closes_1 : decode cX12_closes 1 = .ok (.bipush 32, 2) := by decide +kernel
theorem dX12_closes_3 : decode cX12_closes 3 = .ok (.invokevirtual 182, 3) := by decide +kernel
theorem dX12_closes_6 : decode cX12_closes 6 = .ok (.ifCond .ne 8, 3) := by decide +kernel
theorem dX12_closes_9 : decode cX12_closes 9 = .ok (.aload_n 0, 1) := by decide +kernel
theorem dX12_closes_10 : decode cX12_closes 10 = .ok (.iconst 2, 1) := by decide +kernel
theorem dX12_closes_11 : decode cX12_closes 11 = .ok (.invokevirtual 159, 3) := by decide +kernel
theorem dX12_closes_14 : decode cX12_closes 14 = .ok (.aload_n 0, 1) := by decide +kernel
theorem dX12_closes_15 : decode cX12_closes 15 = .ok (.getfield 24, 3) := by decide +kernel
theorem dX12_closes_18 : decode cX12_closes 18 = .ok (.iconst 0, 1) := by decide +kernel
theorem dX12_closes_19 : decode cX12_closes 19 = .ok (.dup2, 1) := by decide +kernel
theorem dX12_closes_20 : decode cX12_closes 20 = .ok (.iaload, 1) := by decide +kernel
theorem dX12_closes_21 : decode cX12_closes 21 = .ok (.iconst 1, 1) := by decide +kernel
theorem dX12_closes_22 : decode cX12_closes 22 = .ok (.iadd, 1) := by decide +kernel
theorem dX12_closes_23 : decode cX12_closes 23 = .ok (.iastore, 1) := by decide +kernel
theorem dX12_closes_24 : decode cX12_closes 24 = .ok (.return_, 1) := by decide +kernel
def f_X12_closes_14   (m : zz_Mem) : Option zz_Mem :=
  zz_letM (zz_setI m 4 0 ((m.1 4 0) + (1 : Int32))) fun m1 =>
  some m1
theorem t_X12_closes_14 {l : Launch} {G : zz_G} (hN : 26 ≤ zz_N G)  : ∀ (m : zz_Mem), zz_Sim zz_shM l G mX12_closes 7 zz_vV zz_mV (f_X12_closes_14 m) 14 [(0, .ref (zz_a G 0))] [] m := by
  intro m
  unfold f_X12_closes_14
  refine zs_aload_n dX12_closes_14 rfl 0 rfl ?_
  refine zs_getR fl_X12_24 dX12_closes_15 (shm_0 hN) rfl ?_
  refine zs_iconst (v := (0 : Int32)) dX12_closes_18 ci_0 ?_
  refine zs_dup2_11 dX12_closes_19 rfl rfl ?_
  refine zs_ialdC dX12_closes_20 (shm_4 hN) vin_0_1177 clp_0 ?_
  refine zs_iconst (v := (1 : Int32)) dX12_closes_21 ci_1 ?_
  refine zs_iadd dX12_closes_22 ?_
  refine zs_iastC dX12_closes_23 (shm_4 hN) vin_0_1177 clp_0 (fun m1 => ?_)
  exact zs_vret dX12_closes_24 rfl rfl rfl
def f_X12_closes   (m : zz_Mem) : Option zz_Mem :=
  zz_bnd (f_X12_eats (32 : Int32) m) fun r1 m2 =>
  if r1 = 0 then (
  zz_bndR (f_X12_fails (2 : Int32) m2) fun m3 =>
  f_X12_closes_14 m3)
  else (
  f_X12_closes_14 m2)
theorem k_X12_closes {l : Launch} {G : zz_G} (hN : 26 ≤ zz_N G) : ∀ (m : zz_Mem), zz_Con zz_shM l G mX12_closes 7 [.ref (zz_a G 0)] zz_vV zz_mV (f_X12_closes m) m := by
  intro m
  refine zz_con (lv := [(0, .ref (zz_a G 0))]) (by decide +kernel) (Nat.le_of_ble_eq_true rfl) rfl ?_
  unfold f_X12_closes
  refine zs_aload_n dX12_closes_0 rfl 0 rfl ?_
  refine zs_bipush (v := (32 : Int32)) dX12_closes_1 cb_32 ?_
  refine zs_cV_iW (rest := []) (k_X12_eats hN _ _) dX12_closes_3 lv_X12_182 ok_X12_eats (zz_rcv_o (shm_0 hN) rfl) (Nat.le_of_ble_eq_true rfl) rfl rfl (Nat.le_of_ble_eq_true rfl) (fun r1 m2 => ?_)
  refine zs_if_ne (tgt := 14) dX12_closes_6 (by decide) ?_ ?_
  · exact t_X12_closes_14 hN _
  · refine zs_aload_n dX12_closes_9 rfl 0 rfl ?_
    refine zs_iconst (v := (2 : Int32)) dX12_closes_10 ci_2 ?_
    refine zs_cV_vW (rest := []) (k_X12_fails hN _ _) dX12_closes_11 lv_X12_159 ok_X12_fails (zz_rcv_o (shm_0 hN) rfl) (Nat.le_of_ble_eq_true rfl) rfl rfl (Nat.le_of_ble_eq_true rfl) (fun m3 => ?_)
    exact t_X12_closes_14 hN _
/-! X12_between: PillarDeskModel.between(III)I -/
theorem dX12_between_0 : decode cX12_between 0 = .ok (.iload_n 0, 1) := by decide +kernel
theorem dX12_between_1 : decode cX12_between 1 = .ok (.tableswitch 80 3003 3008 #[39, 50, 61, 80, 72, 76], 39) := by decide +kernel
theorem dX12_between_40 : decode cX12_between 40 = .ok (.iload_n 1, 1) := by decide +kernel
theorem dX12_between_41 : decode cX12_between 41 = .ok (.iload_n 2, 1) := by decide +kernel
theorem dX12_between_42 : decode cX12_between 42 = .ok (.if_icmp .ne 7, 3) := by decide +kernel
theorem dX12_between_45 : decode cX12_between 45 = .ok (.iconst 1, 1) := by decide +kernel
theorem dX12_between_46 : decode cX12_between 46 = .ok (.goto 4, 3) := by decide +kernel
theorem dX12_between_49 : decode cX12_between 49 = .ok (.iconst 0, 1) := by decide +kernel
theorem dX12_between_50 : decode cX12_between 50 = .ok (.ireturn, 1) := by decide +kernel
theorem dX12_between_51 : decode cX12_between 51 = .ok (.iload_n 1, 1) := by decide +kernel
theorem dX12_between_52 : decode cX12_between 52 = .ok (.iload_n 2, 1) := by decide +kernel
theorem dX12_between_53 : decode cX12_between 53 = .ok (.if_icmp .ge 7, 3) := by decide +kernel
theorem dX12_between_56 : decode cX12_between 56 = .ok (.iconst 1, 1) := by decide +kernel
theorem dX12_between_57 : decode cX12_between 57 = .ok (.goto 4, 3) := by decide +kernel
theorem dX12_between_60 : decode cX12_between 60 = .ok (.iconst 0, 1) := by decide +kernel
theorem dX12_between_61 : decode cX12_between 61 = .ok (.ireturn, 1) := by decide +kernel
theorem dX12_between_62 : decode cX12_between 62 = .ok (.iload_n 1, 1) := by decide +kernel
theorem dX12_between_63 : decode cX12_between 63 = .ok (.iload_n 2, 1) := by decide +kernel
theorem dX12_between_64 : decode cX12_between 64 = .ok (.if_icmp .le 7, 3) := by decide +kernel
theorem dX12_between_67 : decode cX12_between 67 = .ok (.iconst 1, 1) := by decide +kernel
theorem dX12_between_68 : decode cX12_between 68 = .ok (.goto 4, 3) := by decide +kernel
theorem dX12_between_71 : decode cX12_between 71 = .ok (.iconst 0, 1) := by decide +kernel
theorem dX12_between_72 : decode cX12_between 72 = .ok (.ireturn, 1) := by decide +kernel
theorem dX12_between_73 : decode cX12_between 73 = .ok (.iload_n 1, 1) := by decide +kernel
theorem dX12_between_74 : decode cX12_between 74 = .ok (.iload_n 2, 1) := by decide +kernel
theorem dX12_between_75 : decode cX12_between 75 = .ok (.iand, 1) := by decide +kernel
theorem dX12_between_76 : decode cX12_between 76 = .ok (.ireturn, 1) := by decide +kernel
theorem dX12_between_77 : decode cX12_between 77 = .ok (.iload_n 1, 1) := by decide +kernel
theorem dX12_between_78 : decode cX12_between 78 = .ok (.iload_n 2, 1) := by decide +kernel
theorem dX12_between_79 : decode cX12_between 79 = .ok (.ior, 1) := by decide +kernel
theorem dX12_between_80 : decode cX12_between 80 = .ok (.ireturn, 1) := by decide +kernel
theorem dX12_between_81 : decode cX12_between 81 = .ok (.iload_n 0, 1) := by decide +kernel
theorem dX12_between_82 : decode cX12_between 82 = .ok (.sipush 3000, 3) := by decide +kernel
theorem dX12_between_85 : decode cX12_between 85 = .ok (.if_icmp .ne 11, 3) := by decide +kernel
theorem dX12_between_88 : decode cX12_between 88 = .ok (.iload_n 1, 1) := by decide +kernel
theorem dX12_between_89 : decode cX12_between 89 = .ok (.i2l, 1) := by decide +kernel
theorem dX12_between_90 : decode cX12_between 90 = .ok (.iload_n 2, 1) := by decide +kernel
theorem dX12_between_91 : decode cX12_between 91 = .ok (.i2l, 1) := by decide +kernel
theorem dX12_between_92 : decode cX12_between 92 = .ok (.ladd, 1) := by decide +kernel
theorem dX12_between_93 : decode cX12_between 93 = .ok (.goto 23, 3) := by decide +kernel
theorem dX12_between_96 : decode cX12_between 96 = .ok (.iload_n 0, 1) := by decide +kernel
theorem dX12_between_97 : decode cX12_between 97 = .ok (.sipush 3001, 3) := by decide +kernel
theorem dX12_between_100 : decode cX12_between 100 = .ok (.if_icmp .ne 11, 3) := by decide +kernel
theorem dX12_between_103 : decode cX12_between 103 = .ok (.iload_n 1, 1) := by decide +kernel
theorem dX12_between_104 : decode cX12_between 104 = .ok (.i2l, 1) := by decide +kernel
theorem dX12_between_105 : decode cX12_between 105 = .ok (.iload_n 2, 1) := by decide +kernel
theorem dX12_between_106 : decode cX12_between 106 = .ok (.i2l, 1) := by decide +kernel
theorem dX12_between_107 : decode cX12_between 107 = .ok (.lsub, 1) := by decide +kernel
theorem dX12_between_108 : decode cX12_between 108 = .ok (.goto 8, 3) := by decide +kernel
theorem dX12_between_111 : decode cX12_between 111 = .ok (.iload_n 1, 1) := by decide +kernel
theorem dX12_between_112 : decode cX12_between 112 = .ok (.i2l, 1) := by decide +kernel
theorem dX12_between_113 : decode cX12_between 113 = .ok (.iload_n 2, 1) := by decide +kernel
theorem dX12_between_114 : decode cX12_between 114 = .ok (.i2l, 1) := by decide +kernel
theorem dX12_between_115 : decode cX12_between 115 = .ok (.lmul, 1) := by decide +kernel
theorem dX12_between_116 : decode cX12_between 116 = .ok (.lstore_n 3, 1) := by decide +kernel
theorem dX12_between_117 : decode cX12_between 117 = .ok (.lload_n 3, 1) := by decide +kernel
theorem dX12_between_118 : decode cX12_between 118 = .ok (.ldc2_w 232, 3) := by decide +kernel
theorem dX12_between_121 : decode cX12_between 121 = .ok (.lcmp, 1) := by decide +kernel
theorem dX12_between_122 : decode cX12_between 122 = .ok (.ifCond .le 9, 3) := by decide +kernel
theorem dX12_between_125 : decode cX12_between 125 = .ok (.ldc2_w 232, 3) := by decide +kernel
theorem dX12_between_128 : decode cX12_between 128 = .ok (.goto 18, 3) := by decide +kernel
theorem dX12_between_131 : decode cX12_between 131 = .ok (.lload_n 3, 1) := by decide +kernel
theorem dX12_between_132 : decode cX12_between 132 = .ok (.ldc2_w 234, 3) := by decide +kernel
theorem dX12_between_135 : decode cX12_between 135 = .ok (.lcmp, 1) := by decide +kernel
theorem dX12_between_136 : decode cX12_between 136 = .ok (.ifCond .ge 9, 3) := by decide +kernel
theorem dX12_between_139 : decode cX12_between 139 = .ok (.ldc2_w 234, 3) := by decide +kernel
theorem dX12_between_142 : decode cX12_between 142 = .ok (.goto 4, 3) := by decide +kernel
theorem dX12_between_145 : decode cX12_between 145 = .ok (.lload_n 3, 1) := by decide +kernel
theorem dX12_between_146 : decode cX12_between 146 = .ok (.l2i, 1) := by decide +kernel
theorem dX12_between_147 : decode cX12_between 147 = .ok (.ireturn, 1) := by decide +kernel
def f_X12_between_116   (s0 : Int64) : Option Int32 :=
  if s0 ≤ (1000000 : Int64) then (
  if (-1000000 : Int64) ≤ s0 then (
  some s0.toInt32)
  else (
  some ((-1000000 : Int64).toInt32)))
  else (
  some ((1000000 : Int64).toInt32))
theorem t_X12_between_116 {l : Launch} {G : zz_G} (hN : 26 ≤ zz_N G) {m : zz_Mem}  : ∀ (s0 : Int64), zz_Sim zz_shM l G mX12_between 0 zz_vIr (zz_mC m) (f_X12_between_116 s0) 116 [] [.long s0] m := by
  intro s0
  unfold f_X12_between_116
  refine zs_lstore_n [(3, .long s0)] dX12_between_116 rfl (Nat.le_of_ble_eq_true rfl) rfl ?_
  refine zs_lload_n dX12_between_117 rfl 0 rfl ?_
  refine zs_ldc2 (v := (1000000 : Int64)) dX12_between_118 kc_X12_232 ?_
  refine zs_lcmp_le (tgt := 131) dX12_between_121 dX12_between_122 (by decide) ?_ ?_
  · refine zs_lload_n dX12_between_131 rfl 0 rfl ?_
    refine zs_ldc2 (v := (-1000000 : Int64)) dX12_between_132 kc_X12_234 ?_
    refine zs_lcmp_ge (tgt := 145) dX12_between_135 dX12_between_136 (by decide) ?_ ?_
    · refine zs_lload_n dX12_between_145 rfl 0 rfl ?_
      refine zs_l2i dX12_between_146 ?_
      exact zs_iret dX12_between_147 rfl rfl rfl
    · refine zs_ldc2 (v := (-1000000 : Int64)) dX12_between_139 kc_X12_234 ?_
      refine zs_goto (tgt := 146) dX12_between_142 (by decide) ?_
      refine zs_l2i dX12_between_146 ?_
      exact zs_iret dX12_between_147 rfl rfl rfl
  · refine zs_ldc2 (v := (1000000 : Int64)) dX12_between_125 kc_X12_232 ?_
    refine zs_goto (tgt := 146) dX12_between_128 (by decide) ?_
    refine zs_l2i dX12_between_146 ?_
    exact zs_iret dX12_between_147 rfl rfl rfl
def f_X12_between  (p0 : Int32) (p1 : Int32) (p2 : Int32) : Option Int32 :=
  if p0 = (3003 : Int32) then (
  if p1 = p2 then (
  some (1 : Int32))
  else (
  some (0 : Int32)))
  else if p0 = (3004 : Int32) then (
  if p2 ≤ p1 then (
  some (0 : Int32))
  else (
  some (1 : Int32)))
  else if p0 = (3005 : Int32) then (
  if p1 ≤ p2 then (
  some (0 : Int32))
  else (
  some (1 : Int32)))
  else if p0 = (3006 : Int32) then (
  if p0 = (3000 : Int32) then (
  f_X12_between_116 (p1.toInt64 + p2.toInt64))
  else (
  if p0 = (3001 : Int32) then (
  f_X12_between_116 (p1.toInt64 - p2.toInt64))
  else (
  f_X12_between_116 (p1.toInt64 * p2.toInt64))))
  else if p0 = (3007 : Int32) then (
  some (p1 &&& p2))
  else if p0 = (3008 : Int32) then (
  some (p1 ||| p2))
  else (
  if p0 = (3000 : Int32) then (
  f_X12_between_116 (p1.toInt64 + p2.toInt64))
  else (
  if p0 = (3001 : Int32) then (
  f_X12_between_116 (p1.toInt64 - p2.toInt64))
  else (
  f_X12_between_116 (p1.toInt64 * p2.toInt64))))
theorem k_X12_between {l : Launch} {G : zz_G} (hN : 26 ≤ zz_N G) : ∀ (p0 : Int32) (p1 : Int32) (p2 : Int32) (m : zz_Mem), zz_Con zz_shM l G mX12_between 0 [.int p0, .int p1, .int p2] zz_vIr (zz_mC m) (f_X12_between p0 p1 p2) m := by
  intro p0 p1 p2 m
  refine zz_con (lv := [(0, .int p0), (1, .int p1), (2, .int p2)]) (by decide +kernel) (Nat.le_of_ble_eq_true rfl) rfl ?_
  unfold f_X12_between
  refine zs_iload_n dX12_between_0 rfl 0 rfl ?_
  refine zs_ite (fun h1 => ?_) (fun h1 => ?_)
  · refine zs_tswI (tgt := 40) h1 dX12_between_1 (by decide) (by decide) rfl (by decide) ?_
    refine zs_iload_n dX12_between_40 rfl 1 rfl ?_
    refine zs_iload_n dX12_between_41 rfl 2 rfl ?_
    refine zs_icmp_ne (tgt := 49) dX12_between_42 (by decide) ?_ ?_
    · refine zs_iconst (v := (0 : Int32)) dX12_between_49 ci_0 ?_
      exact zs_iret dX12_between_50 rfl rfl rfl
    · refine zs_iconst (v := (1 : Int32)) dX12_between_45 ci_1 ?_
      refine zs_goto (tgt := 50) dX12_between_46 (by decide) ?_
      exact zs_iret dX12_between_50 rfl rfl rfl
  refine zs_ite (fun h2 => ?_) (fun h2 => ?_)
  · refine zs_tswI (tgt := 51) h2 dX12_between_1 (by decide) (by decide) rfl (by decide) ?_
    refine zs_iload_n dX12_between_51 rfl 1 rfl ?_
    refine zs_iload_n dX12_between_52 rfl 2 rfl ?_
    refine zs_icmp_ge (tgt := 60) dX12_between_53 (by decide) ?_ ?_
    · refine zs_iconst (v := (0 : Int32)) dX12_between_60 ci_0 ?_
      exact zs_iret dX12_between_61 rfl rfl rfl
    · refine zs_iconst (v := (1 : Int32)) dX12_between_56 ci_1 ?_
      refine zs_goto (tgt := 61) dX12_between_57 (by decide) ?_
      exact zs_iret dX12_between_61 rfl rfl rfl
  refine zs_ite (fun h3 => ?_) (fun h3 => ?_)
  · refine zs_tswI (tgt := 62) h3 dX12_between_1 (by decide) (by decide) rfl (by decide) ?_
    refine zs_iload_n dX12_between_62 rfl 1 rfl ?_
    refine zs_iload_n dX12_between_63 rfl 2 rfl ?_
    refine zs_icmp_le (tgt := 71) dX12_between_64 (by decide) ?_ ?_
    · refine zs_iconst (v := (0 : Int32)) dX12_between_71 ci_0 ?_
      exact zs_iret dX12_between_72 rfl rfl rfl
    · refine zs_iconst (v := (1 : Int32)) dX12_between_67 ci_1 ?_
      refine zs_goto (tgt := 72) dX12_between_68 (by decide) ?_
      exact zs_iret dX12_between_72 rfl rfl rfl
  refine zs_ite (fun h4 => ?_) (fun h4 => ?_)
  · refine zs_tswI (tgt := 81) h4 dX12_between_1 (by decide) (by decide) rfl (by decide) ?_
    refine zs_iload_n dX12_between_81 rfl 0 rfl ?_
    refine zs_sipush (v := (3000 : Int32)) dX12_between_82 cs_3000 ?_
    refine zs_icmp_ne (tgt := 96) dX12_between_85 (by decide) ?_ ?_
    · refine zs_iload_n dX12_between_96 rfl 0 rfl ?_
      refine zs_sipush (v := (3001 : Int32)) dX12_between_97 cs_3001 ?_
      refine zs_icmp_ne (tgt := 111) dX12_between_100 (by decide) ?_ ?_
      · refine zs_iload_n dX12_between_111 rfl 1 rfl ?_
        refine zs_i2l dX12_between_112 ?_
        refine zs_iload_n dX12_between_113 rfl 2 rfl ?_
        refine zs_i2l dX12_between_114 ?_
        refine zs_lmul dX12_between_115 ?_
        refine zs_sub [] rfl ?_
        exact t_X12_between_116 hN _
      · refine zs_iload_n dX12_between_103 rfl 1 rfl ?_
        refine zs_i2l dX12_between_104 ?_
        refine zs_iload_n dX12_between_105 rfl 2 rfl ?_
        refine zs_i2l dX12_between_106 ?_
        refine zs_lsub dX12_between_107 ?_
        refine zs_goto (tgt := 116) dX12_between_108 (by decide) ?_
        refine zs_sub [] rfl ?_
        exact t_X12_between_116 hN _
    · refine zs_iload_n dX12_between_88 rfl 1 rfl ?_
      refine zs_i2l dX12_between_89 ?_
      refine zs_iload_n dX12_between_90 rfl 2 rfl ?_
      refine zs_i2l dX12_between_91 ?_
      refine zs_ladd dX12_between_92 ?_
      refine zs_goto (tgt := 116) dX12_between_93 (by decide) ?_
      refine zs_sub [] rfl ?_
      exact t_X12_between_116 hN _
  refine zs_ite (fun h5 => ?_) (fun h5 => ?_)
  · refine zs_tswI (tgt := 73) h5 dX12_between_1 (by decide) (by decide) rfl (by decide) ?_
    refine zs_iload_n dX12_between_73 rfl 1 rfl ?_
    refine zs_iload_n dX12_between_74 rfl 2 rfl ?_
    refine zs_iand dX12_between_75 ?_
    exact zs_iret dX12_between_76 rfl rfl rfl
  refine zs_ite (fun h6 => ?_) (fun h6 => ?_)
  · refine zs_tswI (tgt := 77) h6 dX12_between_1 (by decide) (by decide) rfl (by decide) ?_
    refine zs_iload_n dX12_between_77 rfl 1 rfl ?_
    refine zs_iload_n dX12_between_78 rfl 2 rfl ?_
    refine zs_ior dX12_between_79 ?_
    exact zs_iret dX12_between_80 rfl rfl rfl
  refine zs_tswO (tgt := 81) dX12_between_1 (by have eh1 := lv_neT h1 (a := 3003) rfl; have eh2 := lv_neT h2 (a := 3004) rfl; have eh3 := lv_neT h3 (a := 3005) rfl; have eh4 := lv_neT h4 (a := 3006) rfl; have eh5 := lv_neT h5 (a := 3007) rfl; have eh6 := lv_neT h6 (a := 3008) rfl; omega) (by decide) ?_
  refine zs_iload_n dX12_between_81 rfl 0 rfl ?_
  refine zs_sipush (v := (3000 : Int32)) dX12_between_82 cs_3000 ?_
  refine zs_icmp_ne (tgt := 96) dX12_between_85 (by decide) ?_ ?_
  · refine zs_iload_n dX12_between_96 rfl 0 rfl ?_
    refine zs_sipush (v := (3001 : Int32)) dX12_between_97 cs_3001 ?_
    refine zs_icmp_ne (tgt := 111) dX12_between_100 (by decide) ?_ ?_
    · refine zs_iload_n dX12_between_111 rfl 1 rfl ?_
      refine zs_i2l dX12_between_112 ?_
      refine zs_iload_n dX12_between_113 rfl 2 rfl ?_
      refine zs_i2l dX12_between_114 ?_
      refine zs_lmul dX12_between_115 ?_
      refine zs_sub [] rfl ?_
      exact t_X12_between_116 hN _
    · refine zs_iload_n dX12_between_103 rfl 1 rfl ?_
      refine zs_i2l dX12_between_104 ?_
      refine zs_iload_n dX12_between_105 rfl 2 rfl ?_
      refine zs_i2l dX12_between_106 ?_
      refine zs_lsub dX12_between_107 ?_
      refine zs_goto (tgt := 116) dX12_between_108 (by decide) ?_
      refine zs_sub [] rfl ?_
      exact t_X12_between_116 hN _
  · refine zs_iload_n dX12_between_88 rfl 1 rfl ?_
    refine zs_i2l dX12_between_89 ?_
    refine zs_iload_n dX12_between_90 rfl 2 rfl ?_
    refine zs_i2l dX12_between_91 ?_
    refine zs_ladd dX12_between_92 ?_
    refine zs_goto (tgt := 116) dX12_between_93 (by decide) ?_
    refine zs_sub [] rfl ?_
    exact t_X12_between_116 hN _
/-! X12_reckons: PillarDeskModel.reckons(I)I -/
theorem dX12_reckons_0 : decode cX12_reckons 0 = .ok (.iconst 0, 1) := by decide +kernel
theorem dX12_reckons_1 : decode cX12_reckons 1 = .ok (.istore_n 2, 1) := by decide +kernel
theorem dX12_reckons_2 : decode cX12_reckons 2 = .ok (.iconst 0, 1) := by decide +kernel
theorem dX12_reckons_3 : decode cX12_reckons 3 = .ok (.istore_n 3, 1) := by decide +kernel
theorem dX12_reckons_4 : decode cX12_reckons 4 = .ok (.iload_n 3, 1) := by decide +kernel
theorem dX12_reckons_5 : decode cX12_reckons 5 = .ok (.aload_n 0, 1) := by decide +kernel
theorem dX12_reckons_6 : decode cX12_reckons 6 = .ok (.getfield 13, 3) := by decide +kernel
theorem dX12_reckons_9 : decode cX12_reckons 9 = .ok (.bipush 10, 2) := by decide +kernel
theorem dX12_reckons_11 : decode cX12_reckons 11 = .ok (.iload_n 1, 1) := by decide +kernel
theorem dX12_reckons_12 : decode cX12_reckons 12 = .ok (.iadd, 1) := by decide +kernel
theorem dX12_reckons_13 : decode cX12_reckons 13 = .ok (.iaload, 1) := by decide +kernel
theorem dX12_reckons_14 : decode cX12_reckons 14 = .ok (.if_icmp .ge 185, 3) := by decide +kernel
theorem dX12_reckons_17 : decode cX12_reckons 17 = .ok (.aload_n 0, 1) := by decide +kernel
theorem dX12_reckons_18 : decode cX12_reckons 18 = .ok (.getfield 13, 3) := by decide +kernel
theorem dX12_reckons_21 : decode cX12_reckons 21 = .ok (.sipush 277, 3) := by decide +kernel
theorem dX12_reckons_24 : decode cX12_reckons 24 = .ok (.aload_n 0, 1) := by decide +kernel
theorem dX12_reckons_25 : decode cX12_reckons 25 = .ok (.getfield 13, 3) := by decide +kernel
theorem dX12_reckons_28 : decode cX12_reckons 28 = .ok (.bipush 8, 2) := by decide +kernel
theorem dX12_reckons_30 : decode cX12_reckons 30 = .ok (.iload_n 1, 1) := by decide +kernel
theorem dX12_reckons_31 : decode cX12_reckons 31 = .ok (.iadd, 1) := by decide +kernel
theorem dX12_reckons_32 : decode cX12_reckons 32 = .ok (.iaload, 1) := by decide +kernel
theorem dX12_reckons_33 : decode cX12_reckons 33 = .ok (.iadd, 1) := by decide +kernel
theorem dX12_reckons_34 : decode cX12_reckons 34 = .ok (.iload_n 3, 1) := by decide +kernel
theorem dX12_reckons_35 : decode cX12_reckons 35 = .ok (.iadd, 1) := by decide +kernel
theorem dX12_reckons_36 : decode cX12_reckons 36 = .ok (.iaload, 1) := by decide +kernel
theorem dX12_reckons_37 : decode cX12_reckons 37 = .ok (.istore 4, 2) := by decide +kernel
theorem dX12_reckons_39 : decode cX12_reckons 39 = .ok (.iload 4, 2) := by decide +kernel
theorem dX12_reckons_41 : decode cX12_reckons 41 = .ok (.sipush 3000, 3) := by decide +kernel
theorem dX12_reckons_44 : decode cX12_reckons 44 = .ok (.if_icmp .ge 39, 3) := by decide +kernel
theorem dX12_reckons_47 : decode cX12_reckons 47 = .ok (.aload_n 0, 1) := by decide +kernel
theorem dX12_reckons_48 : decode cX12_reckons 48 = .ok (.getfield 30, 3) := by decide +kernel
theorem dX12_reckons_51 : decode cX12_reckons 51 = .ok (.iload_n 2, 1) := by decide +kernel
theorem dX12_reckons_52 : decode cX12_reckons 52 = .ok (.iload 4, 2) := by decide +kernel
theorem dX12_reckons_54 : decode cX12_reckons 54 = .ok (.sipush 1000, 3) := by decide +kernel
theorem dX12_reckons_57 : decode cX12_reckons 57 = .ok (.if_icmp .ge 8, 3) := by decide +kernel
theorem dX12_reckons_60 : decode cX12_reckons 60 = .ok (.iload 4, 2) := by decide +kernel
theorem dX12_reckons_62 : decode cX12_reckons 62 = .ok (.goto 14, 3) := by decide +kernel
theorem dX12_reckons_65 : decode cX12_reckons 65 = .ok (.aload_n 0, 1) := by decide +kernel
theorem dX12_reckons_66 : decode cX12_reckons 66 = .ok (.getfield 33, 3) := by decide +kernel
theorem dX12_reckons_69 : decode cX12_reckons 69 = .ok (.iload 4, 2) := by decide +kernel
theorem dX12_reckons_71 : decode cX12_reckons 71 = .ok (.sipush 1000, 3) := by decide +kernel
theorem dX12_reckons_74 : decode cX12_reckons 74 = .ok (.isub, 1) := by decide +kernel
theorem dX12_reckons_75 : decode cX12_reckons 75 = .ok (.iaload, 1) := by decide +kernel
theorem dX12_reckons_76 : decode cX12_reckons 76 = .ok (.iastore, 1) := by decide +kernel
theorem dX12_reckons_77 : decode cX12_reckons 77 = .ok (.iinc 2 1, 3) := by decide +kernel
theorem dX12_reckons_80 : decode cX12_reckons 80 = .ok (.goto 113, 3) := by decide +kernel
theorem dX12_reckons_83 : decode cX12_reckons 83 = .ok (.iload 4, 2) := by decide +kernel
theorem dX12_reckons_85 : decode cX12_reckons 85 = .ok (.sipush 3006, 3) := by decide +kernel
theorem dX12_reckons_88 : decode cX12_reckons 88 = .ok (.if_icmp .ne 24, 3) := by decide +kernel
theorem dX12_reckons_91 : decode cX12_reckons 91 = .ok (.aload_n 0, 1) := by decide +kernel
theorem dX12_reckons_92 : decode cX12_reckons 92 = .ok (.getfield 30, 3) := by decide +kernel
theorem dX12_reckons_95 : decode cX12_reckons 95 = .ok (.iload_n 2, 1) := by decide +kernel
theorem dX12_reckons_96 : decode cX12_reckons 96 = .ok (.iconst 1, 1) := by decide +kernel
theorem dX12_reckons_97 : decode cX12_reckons 97 = .ok (.isub, 1) := by decide +kernel
theorem dX12_reckons_98 : decode cX12_reckons 98 = .ok (.iconst 1, 1) := by decide +kernel
theorem dX12_reckons_99 : decode cX12_reckons 99 = .ok (.aload_n 0, 1) := by decide +kernel
theorem dX12_reckons_100 : decode cX12_reckons 100 = .ok (.getfield 30, 3) := by decide +kernel
theorem dX12_reckons_103 : decode cX12_reckons 103 = .ok (.iload_n 2, 1) := by decide +kernel
theorem dX12_reckons_104 : decode cX12_reckons 104 = .ok (.iconst 1, 1) := by decide +kernel
theorem dX12_reckons_105 : decode cX12_reckons 105 = .ok (.isub, 1) := by decide +kernel
theorem dX12_reckons_106 : decode cX12_reckons 106 = .ok (.iaload, 1) := by decide +kernel
theorem dX12_reckons_107 : decode cX12_reckons 107 = .ok (.isub, 1) := by decide +kernel
theorem dX12_reckons_108 : decode cX12_reckons 108 = .ok (.iastore, 1) := by decide +kernel
theorem dX12_reckons_109 : decode cX12_reckons 109 = .ok (.goto 84, 3) := by decide +kernel
theorem dX12_reckons_112 : decode cX12_reckons 112 = .ok (.iload 4, 2) := by decide +kernel
theorem dX12_reckons_114 : decode cX12_reckons 114 = .ok (.sipush 3009, 3) := by decide +kernel
theorem dX12_reckons_117 : decode cX12_reckons 117 = .ok (.if_icmp .ne 46, 3) := by decide +kernel
theorem dX12_reckons_120 : decode cX12_reckons 120 = .ok (.iinc 2 (-2), 3) := by decide +kernel
theorem dX12_reckons_123 : decode cX12_reckons 123 = .ok (.aload_n 0, 1) := by decide +kernel
theorem dX12_reckons_124 : decode cX12_reckons 124 = .ok (.getfield 30, 3) := by decide +kernel
theorem dX12_reckons_127 : decode cX12_reckons 127 = .ok (.iload_n 2, 1) := by decide +kernel
theorem dX12_reckons_128 : decode cX12_reckons 128 = .ok (.iconst 1, 1) := by decide +kernel
theorem dX12_reckons_129 : decode cX12_reckons 129 = .ok (.isub, 1) := by decide +kernel
theorem dX12_reckons_130 : decode cX12_reckons 130 = .ok (.aload_n 0, 1) := by decide +kernel
theorem dX12_reckons_131 : decode cX12_reckons 131 = .ok (.getfield 30, 3) := by decide +kernel
theorem dX12_reckons_134 : decode cX12_reckons 134 = .ok (.iload_n 2, 1) := by decide +kernel
theorem dX12_reckons_135 : decode cX12_reckons 135 = .ok (.iconst 1, 1) := by decide +kernel
theorem dX12_reckons_136 : decode cX12_reckons 136 = .ok (.isub, 1) := by decide +kernel
theorem dX12_reckons_137 : decode cX12_reckons 137 = .ok (.iaload, 1) := by decide +kernel
theorem dX12_reckons_138 : decode cX12_reckons 138 = .ok (.iconst 1, 1) := by decide +kernel
theorem dX12_reckons_139 : decode cX12_reckons 139 = .ok (.if_icmp .ne 12, 3) := by decide +kernel
theorem dX12_reckons_142 : decode cX12_reckons 142 = .ok (.aload_n 0, 1) := by decide +kernel
theorem dX12_reckons_143 : decode cX12_reckons 143 = .ok (.getfield 30, 3) := by decide +kernel
theorem dX12_reckons_146 : decode cX12_reckons 146 = .ok (.iload_n 2, 1) := by decide +kernel
theorem dX12_reckons_147 : decode cX12_reckons 147 = .ok (.iaload, 1) := by decide +kernel
theorem dX12_reckons_148 : decode cX12_reckons 148 = .ok (.goto 11, 3) := by decide +kernel
theorem dX12_reckons_151 : decode cX12_reckons 151 = .ok (.aload_n 0, 1) := by decide +kernel
theorem dX12_reckons_152 : decode cX12_reckons 152 = .ok (.getfield 30, 3) := by decide +kernel
theorem dX12_reckons_155 : decode cX12_reckons 155 = .ok (.iload_n 2, 1) := by decide +kernel
theorem dX12_reckons_156 : decode cX12_reckons 156 = .ok (.iconst 1, 1) := by decide +kernel
theorem dX12_reckons_157 : decode cX12_reckons 157 = .ok (.iadd, 1) := by decide +kernel
theorem dX12_reckons_158 : decode cX12_reckons 158 = .ok (.iaload, 1) := by decide +kernel
theorem dX12_reckons_159 : decode cX12_reckons 159 = .ok (.iastore, 1) := by decide +kernel
theorem dX12_reckons_160 : decode cX12_reckons 160 = .ok (.goto 33, 3) := by decide +kernel
theorem dX12_reckons_163 : decode cX12_reckons 163 = .ok (.iinc 2 (-1), 3) := by decide +kernel
theorem dX12_reckons_166 : decode cX12_reckons 166 = .ok (.aload_n 0, 1) := by decide +kernel
theorem dX12_reckons_167 : decode cX12_reckons 167 = .ok (.getfield 30, 3) := by decide +kernel
theorem dX12_reckons_170 : decode cX12_reckons 170 = .ok (.iload_n 2, 1) := by decide +kernel
theorem dX12_reckons_171 : decode cX12_reckons 171 = .ok (.iconst 1, 1) := by decide +kernel
theorem dX12_reckons_172 : decode cX12_reckons 172 = .ok (.isub, 1) := by decide +kernel
theorem dX12_reckons_173 : decode cX12_reckons 173 = .ok (.iload 4, 2) := by decide +kernel
theorem dX12_reckons_175 : decode cX12_reckons 175 = .ok (.aload_n 0, 1) := by decide +kernel
theorem dX12_reckons_176 : decode cX12_reckons 176 = .ok (.getfield 30, 3) := by decide +kernel
theorem dX12_reckons_179 : decode cX12_reckons 179 = .ok (.iload_n 2, 1) := by decide +kernel
theorem dX12_reckons_180 : decode cX12_reckons 180 = .ok (.iconst 1, 1) := by decide +kernel
theorem dX12_reckons_181 : decode cX12_reckons 181 = .ok (.isub, 1) := by decide +kernel
theorem dX12_reckons_182 : decode cX12_reckons 182 = .ok (.iaload, 1) := by decide +kernel
theorem dX12_reckons_183 : decode cX12_reckons 183 = .ok (.aload_n 0, 1) := by decide +kernel
theorem dX12_reckons_184 : decode cX12_reckons 184 = .ok (.getfield 30, 3) := by decide +kernel
theorem dX12_reckons_187 : decode cX12_reckons 187 = .ok (.iload_n 2, 1) := by decide +kernel
theorem dX12_reckons_188 : decode cX12_reckons 188 = .ok (.iaload, 1) := by decide +kernel
theorem dX12_reckons_189 : decode cX12_reckons 189 = .ok (.invokestatic 236, 3) := by decide +kernel
theorem dX12_reckons_192 : decode cX12_reckons 192 = .ok (.iastore, 1) := by decide +kernel
theorem dX12_reckons_193 : decode cX12_reckons 193 = .ok (.iinc 3 1, 3) := by decide +kernel
theorem dX12_reckons_196 : decode cX12_reckons 196 = .ok (.goto (-192), 3) := by decide +kernel
theorem dX12_reckons_199 : decode cX12_reckons 199 = .ok (.aload_n 0, 1) := by decide +kernel
theorem dX12_reckons_200 : decode cX12_reckons 200 = .ok (.getfield 30, 3) := by decide +kernel
theorem dX12_reckons_203 : decode cX12_reckons 203 = .ok (.iconst 0, 1) := by decide +kernel
theorem dX12_reckons_204 : decode cX12_reckons 204 = .ok (.iaload, 1) := by decide +kernel
theorem dX12_reckons_205 : decode cX12_reckons 205 = .ok (.ireturn, 1) := by decide +kernel
def f_X12_reckons_159  (k4 : Int32 → Int32 → Int32 → zz_Mem → Option (Int32 × zz_Mem)) (v1 : Int32) (v2 : Int32) (v3 : Int32) (s0 : Int32) (s1 : Int32) (m : zz_Mem) : Option (Int32 × zz_Mem) :=
  zz_ix s1 900 <| zz_letM (zz_setI m 5 s1.toNatClampNeg s0) fun m1 =>
  zz_letI (v3 + (1 : Int32)) fun x2 =>
  k4 v1 v2 x2 m1
theorem t_X12_reckons_159 {l : Launch} {G : zz_G} (hN : 26 ≤ zz_N G) {k4 : Int32 → Int32 → Int32 → zz_Mem → Option (Int32 × zz_Mem)} (hk4 : ∀ (v1 : Int32) (v2 : Int32) (v3 : Int32) (m : zz_Mem), zz_Sim zz_shM l G mX12_reckons 1 zz_vI zz_m2 (k4 v1 v2 v3 m) 4 [(0, .ref (zz_a G 0)), (1, .int v1), (2, .int v2), (3, .int v3)] [] m) : ∀ (v1 : Int32) (v2 : Int32) (v3 : Int32) (s0 : Int32) (s1 : Int32) (m : zz_Mem), zz_Sim zz_shM l G mX12_reckons 1 zz_vI zz_m2 (f_X12_reckons_159 k4 v1 v2 v3 s0 s1 m) 159 [(0, .ref (zz_a G 0)), (1, .int v1), (2, .int v2), (3, .int v3)] [.int s0, .int s1, .ref (zz_a G 5)] m := by
  intro v1 v2 v3 s0 s1 m
  unfold f_X12_reckons_159
  refine zs_iastG dX12_reckons_159 (shm_5 hN) (fun m1 => ?_)
  refine zs_goto (tgt := 193) dX12_reckons_160 (by decide) ?_
  refine zs_iinc (fun y => [(3, .int y), (0, .ref (zz_a G 0)), (1, .int v1), (2, .int v2)]) dX12_reckons_193 3 rfl ci_1 (Nat.le_of_ble_eq_true rfl) (fun _ => rfl) (fun x2 => ?_)
  refine zs_goto (tgt := 4) dX12_reckons_196 (by decide) ?_
  refine zs_sub [1, 2, 3, 0] rfl ?_
  exact hk4 _ _ _ _
def f_X12_reckons_76  (k4 : Int32 → Int32 → Int32 → zz_Mem → Option (Int32 × zz_Mem)) (v1 : Int32) (v2 : Int32) (v3 : Int32) (s0 : Int32) (s1 : Int32) (m : zz_Mem) : Option (Int32 × zz_Mem) :=
  zz_ix s1 900 <| zz_letM (zz_setI m 5 s1.toNatClampNeg s0) fun m1 =>
  zz_letI (v2 + (1 : Int32)) fun x2 =>
  zz_letI (v3 + (1 : Int32)) fun x3 =>
  k4 v1 x2 x3 m1
theorem t_X12_reckons_76 {l : Launch} {G : zz_G} (hN : 26 ≤ zz_N G) {k4 : Int32 → Int32 → Int32 → zz_Mem → Option (Int32 × zz_Mem)} (hk4 : ∀ (v1 : Int32) (v2 : Int32) (v3 : Int32) (m : zz_Mem), zz_Sim zz_shM l G mX12_reckons 1 zz_vI zz_m2 (k4 v1 v2 v3 m) 4 [(0, .ref (zz_a G 0)), (1, .int v1), (2, .int v2), (3, .int v3)] [] m) : ∀ (v1 : Int32) (v2 : Int32) (v3 : Int32) (s0 : Int32) (s1 : Int32) (m : zz_Mem), zz_Sim zz_shM l G mX12_reckons 1 zz_vI zz_m2 (f_X12_reckons_76 k4 v1 v2 v3 s0 s1 m) 76 [(0, .ref (zz_a G 0)), (1, .int v1), (2, .int v2), (3, .int v3)] [.int s0, .int s1, .ref (zz_a G 5)] m := by
  intro v1 v2 v3 s0 s1 m
  unfold f_X12_reckons_76
  refine zs_iastG dX12_reckons_76 (shm_5 hN) (fun m1 => ?_)
  refine zs_iinc (fun y => [(2, .int y), (0, .ref (zz_a G 0)), (1, .int v1), (3, .int v3)]) dX12_reckons_77 2 rfl ci_1 (Nat.le_of_ble_eq_true rfl) (fun _ => rfl) (fun x2 => ?_)
  refine zs_goto (tgt := 193) dX12_reckons_80 (by decide) ?_
  refine zs_iinc (fun y => [(3, .int y), (2, .int x2), (0, .ref (zz_a G 0)), (1, .int v1)]) dX12_reckons_193 3 rfl ci_1 (Nat.le_of_ble_eq_true rfl) (fun _ => rfl) (fun x3 => ?_)
  refine zs_goto (tgt := 4) dX12_reckons_196 (by decide) ?_
  refine zs_sub [2, 3, 1, 0] rfl ?_
  exact hk4 _ _ _ _
def f_X12_reckons_4   : Nat → Int32 → Int32 → Int32 → zz_Mem → Option (Int32 × zz_Mem)
  | 0, _, _, _, _ => none
  | n + 1, v1, v2, v3, m =>
  zz_ix ((10 : Int32) + v1) 3531 <|
  if (m.1 1 ((10 : Int32) + v1).toNatClampNeg) ≤ v3 then (
  some (m.1 5 0, m))
  else (
  zz_ix ((8 : Int32) + v1) 3531 <|
  zz_ix (((277 : Int32) + (m.1 1 ((8 : Int32) + v1).toNatClampNeg)) + v3) 3531 <|
  zz_letI (m.1 1 (((277 : Int32) + (m.1 1 ((8 : Int32) + v1).toNatClampNeg)) + v3).toNatClampNeg) fun x1 =>
  if (3000 : Int32) ≤ x1 then (
  if x1 = (3006 : Int32) then (
  zz_ix (v2 - (1 : Int32)) 900 <|
  zz_ix (v2 - (1 : Int32)) 900 <| zz_letM (zz_setI m 5 (v2 - (1 : Int32)).toNatClampNeg ((1 : Int32) - (m.1 5 (v2 - (1 : Int32)).toNatClampNeg))) fun m7 =>
  zz_letI (v3 + (1 : Int32)) fun x8 =>
  f_X12_reckons_4 n v1 v2 x8 m7)
  else (
  if x1 = (3009 : Int32) then (
  zz_letI (v2 + (-2 : Int32)) fun x6 =>
  zz_ix (x6 - (1 : Int32)) 900 <|
  if (m.1 5 (x6 - (1 : Int32)).toNatClampNeg) = (1 : Int32) then (
  zz_ix x6 900 <|
  f_X12_reckons_159 (f_X12_reckons_4 n) v1 x6 v3 (m.1 5 x6.toNatClampNeg) (x6 - (1 : Int32)) m)
  else (
  zz_ix (x6 + (1 : Int32)) 900 <|
  f_X12_reckons_159 (f_X12_reckons_4 n) v1 x6 v3 (m.1 5 (x6 + (1 : Int32)).toNatClampNeg) (x6 - (1 : Int32)) m))
  else (
  zz_letI (v2 + (-1 : Int32)) fun x2 =>
  zz_ix (x2 - (1 : Int32)) 900 <|
  zz_ix x2 900 <|
  zz_bndR (f_X12_between x1 (m.1 5 (x2 - (1 : Int32)).toNatClampNeg) (m.1 5 x2.toNatClampNeg)) fun r3 =>
  zz_ix (x2 - (1 : Int32)) 900 <| zz_letM (zz_setI m 5 (x2 - (1 : Int32)).toNatClampNeg r3) fun m4 =>
  zz_letI (v3 + (1 : Int32)) fun x5 =>
  f_X12_reckons_4 n v1 x2 x5 m4)))
  else (
  if (1000 : Int32) ≤ x1 then (
  zz_ix (x1 - (1000 : Int32)) 8 <|
  f_X12_reckons_76 (f_X12_reckons_4 n) v1 v2 v3 (m.1 6 (x1 - (1000 : Int32)).toNatClampNeg) v2 m)
  else (
  f_X12_reckons_76 (f_X12_reckons_4 n) v1 v2 v3 x1 v2 m)))
theorem t_X12_reckons_4 {l : Launch} {G : zz_G} (hN : 26 ≤ zz_N G)  : ∀ (n : Nat) (v1 : Int32) (v2 : Int32) (v3 : Int32) (m : zz_Mem), zz_Sim zz_shM l G mX12_reckons 1 zz_vI zz_m2 (f_X12_reckons_4 n v1 v2 v3 m) 4 [(0, .ref (zz_a G 0)), (1, .int v1), (2, .int v2), (3, .int v3)] [] m := by
  intro n
  induction n with
  | zero => intro _ _ _ _; exact zs_none
  | succ n ih =>
    intro v1 v2 v3 m
    rw [f_X12_reckons_4]
    refine zs_iload_n dX12_reckons_4 rfl 3 rfl ?_
    refine zs_aload_n dX12_reckons_5 rfl 0 rfl ?_
    refine zs_getR fl_X12_13 dX12_reckons_6 (shm_0 hN) rfl ?_
    refine zs_bipush (v := (10 : Int32)) dX12_reckons_9 cb_10 ?_
    refine zs_iload_n dX12_reckons_11 rfl 1 rfl ?_
    refine zs_iadd dX12_reckons_12 ?_
    refine zs_ialdG dX12_reckons_13 (shm_1 hN) ?_
    refine zs_icmp_ge (tgt := 199) dX12_reckons_14 (by decide) ?_ ?_
    · refine zs_aload_n dX12_reckons_199 rfl 0 rfl ?_
      refine zs_getR fl_X12_30 dX12_reckons_200 (shm_0 hN) rfl ?_
      refine zs_iconst (v := (0 : Int32)) dX12_reckons_203 ci_0 ?_
      refine zs_ialdC dX12_reckons_204 (shm_5 hN) vin_0_900 clp_0 ?_
      exact zs_iret dX12_reckons_205 rfl rfl rfl
    · refine zs_aload_n dX12_reckons_17 rfl 0 rfl ?_
      refine zs_getR fl_X12_13 dX12_reckons_18 (shm_0 hN) rfl ?_
      refine zs_sipush (v := (277 : Int32)) dX12_reckons_21 cs_277 ?_
      refine zs_aload_n dX12_reckons_24 rfl 0 rfl ?_
      refine zs_getR fl_X12_13 dX12_reckons_25 (shm_0 hN) rfl ?_
      refine zs_bipush (v := (8 : Int32)) dX12_reckons_28 cb_8 ?_
      refine zs_iload_n dX12_reckons_30 rfl 1 rfl ?_
      refine zs_iadd dX12_reckons_31 ?_
      refine zs_ialdG dX12_reckons_32 (shm_1 hN) ?_
      refine zs_iadd dX12_reckons_33 ?_
      refine zs_iload_n dX12_reckons_34 rfl 3 rfl ?_
      refine zs_iadd dX12_reckons_35 ?_
      refine zs_ialdG dX12_reckons_36 (shm_1 hN) ?_
      refine zs_letI (fun x1 => ?_)
      refine zs_istore [(4, .int x1), (0, .ref (zz_a G 0)), (1, .int v1), (2, .int v2), (3, .int v3)] dX12_reckons_37 (Nat.le_of_ble_eq_true rfl) rfl ?_
      refine zs_iload dX12_reckons_39 0 rfl ?_
      refine zs_sipush (v := (3000 : Int32)) dX12_reckons_41 cs_3000 ?_
      refine zs_icmp_ge (tgt := 83) dX12_reckons_44 (by decide) ?_ ?_
      · refine zs_iload dX12_reckons_83 0 rfl ?_
        refine zs_sipush (v := (3006 : Int32)) dX12_reckons_85 cs_3006 ?_
        refine zs_icmp_ne (tgt := 112) dX12_reckons_88 (by decide) ?_ ?_
        · refine zs_iload dX12_reckons_112 0 rfl ?_
          refine zs_sipush (v := (3009 : Int32)) dX12_reckons_114 cs_3009 ?_
          refine zs_icmp_ne (tgt := 163) dX12_reckons_117 (by decide) ?_ ?_
          · refine zs_iinc (fun y => [(2, .int y), (4, .int x1), (0, .ref (zz_a G 0)), (1, .int v1), (3, .int v3)]) dX12_reckons_163 3 rfl ci_m1 (Nat.le_of_ble_eq_true rfl) (fun _ => rfl) (fun x2 => ?_)
            refine zs_aload_n dX12_reckons_166 rfl 2 rfl ?_
            refine zs_getR fl_X12_30 dX12_reckons_167 (shm_0 hN) rfl ?_
            refine zs_iload_n dX12_reckons_170 rfl 0 rfl ?_
            refine zs_iconst (v := (1 : Int32)) dX12_reckons_171 ci_1 ?_
            refine zs_isub dX12_reckons_172 ?_
            refine zs_iload dX12_reckons_173 1 rfl ?_
            refine zs_aload_n dX12_reckons_175 rfl 2 rfl ?_
            refine zs_getR fl_X12_30 dX12_reckons_176 (shm_0 hN) rfl ?_
            refine zs_iload_n dX12_reckons_179 rfl 0 rfl ?_
            refine zs_iconst (v := (1 : Int32)) dX12_reckons_180 ci_1 ?_
            refine zs_isub dX12_reckons_181 ?_
            refine zs_ialdG dX12_reckons_182 (shm_5 hN) ?_
            refine zs_aload_n dX12_reckons_183 rfl 2 rfl ?_
            refine zs_getR fl_X12_30 dX12_reckons_184 (shm_0 hN) rfl ?_
            refine zs_iload_n dX12_reckons_187 rfl 0 rfl ?_
            refine zs_ialdG dX12_reckons_188 (shm_5 hN) ?_
            refine zs_cS_iR (rest := [.int (x2 - (1 : Int32)), .ref (zz_a G 5)]) (k_X12_between hN _ _ _ _) dX12_reckons_189 ls_X12_236 ok_X12_between (Nat.le_of_ble_eq_true rfl) rfl rfl (Nat.le_of_ble_eq_true rfl) (fun r3 => ?_)
            refine zs_iastG dX12_reckons_192 (shm_5 hN) (fun m4 => ?_)
            refine zs_iinc (fun y => [(3, .int y), (2, .int x2), (4, .int x1), (0, .ref (zz_a G 0)), (1, .int v1)]) dX12_reckons_193 4 rfl ci_1 (Nat.le_of_ble_eq_true rfl) (fun _ => rfl) (fun x5 => ?_)
            refine zs_goto (tgt := 4) dX12_reckons_196 (by decide) ?_
            refine zs_sub [3, 4, 1, 0] rfl ?_
            exact ih _ _ _ _
          · refine zs_iinc (fun y => [(2, .int y), (4, .int x1), (0, .ref (zz_a G 0)), (1, .int v1), (3, .int v3)]) dX12_reckons_120 3 rfl ci_m2 (Nat.le_of_ble_eq_true rfl) (fun _ => rfl) (fun x6 => ?_)
            refine zs_aload_n dX12_reckons_123 rfl 2 rfl ?_
            refine zs_getR fl_X12_30 dX12_reckons_124 (shm_0 hN) rfl ?_
            refine zs_iload_n dX12_reckons_127 rfl 0 rfl ?_
            refine zs_iconst (v := (1 : Int32)) dX12_reckons_128 ci_1 ?_
            refine zs_isub dX12_reckons_129 ?_
            refine zs_aload_n dX12_reckons_130 rfl 2 rfl ?_
            refine zs_getR fl_X12_30 dX12_reckons_131 (shm_0 hN) rfl ?_
            refine zs_iload_n dX12_reckons_134 rfl 0 rfl ?_
            refine zs_iconst (v := (1 : Int32)) dX12_reckons_135 ci_1 ?_
            refine zs_isub dX12_reckons_136 ?_
            refine zs_ialdG dX12_reckons_137 (shm_5 hN) ?_
            refine zs_iconst (v := (1 : Int32)) dX12_reckons_138 ci_1 ?_
            refine zs_icmp_ne (tgt := 151) dX12_reckons_139 (by decide) ?_ ?_
            · refine zs_aload_n dX12_reckons_151 rfl 2 rfl ?_
              refine zs_getR fl_X12_30 dX12_reckons_152 (shm_0 hN) rfl ?_
              refine zs_iload_n dX12_reckons_155 rfl 0 rfl ?_
              refine zs_iconst (v := (1 : Int32)) dX12_reckons_156 ci_1 ?_
              refine zs_iadd dX12_reckons_157 ?_
              refine zs_ialdG dX12_reckons_158 (shm_5 hN) ?_
              refine zs_sub [2, 3, 0, 4] rfl ?_
              exact t_X12_reckons_159 hN ih _ _ _ _ _ _
            · refine zs_aload_n dX12_reckons_142 rfl 2 rfl ?_
              refine zs_getR fl_X12_30 dX12_reckons_143 (shm_0 hN) rfl ?_
              refine zs_iload_n dX12_reckons_146 rfl 0 rfl ?_
              refine zs_ialdG dX12_reckons_147 (shm_5 hN) ?_
              refine zs_goto (tgt := 159) dX12_reckons_148 (by decide) ?_
              refine zs_sub [2, 3, 0, 4] rfl ?_
              exact t_X12_reckons_159 hN ih _ _ _ _ _ _
        · refine zs_aload_n dX12_reckons_91 rfl 1 rfl ?_
          refine zs_getR fl_X12_30 dX12_reckons_92 (shm_0 hN) rfl ?_
          refine zs_iload_n dX12_reckons_95 rfl 3 rfl ?_
          refine zs_iconst (v := (1 : Int32)) dX12_reckons_96 ci_1 ?_
          refine zs_isub dX12_reckons_97 ?_
          refine zs_iconst (v := (1 : Int32)) dX12_reckons_98 ci_1 ?_
          refine zs_aload_n dX12_reckons_99 rfl 1 rfl ?_
          refine zs_getR fl_X12_30 dX12_reckons_100 (shm_0 hN) rfl ?_
          refine zs_iload_n dX12_reckons_103 rfl 3 rfl ?_
          refine zs_iconst (v := (1 : Int32)) dX12_reckons_104 ci_1 ?_
          refine zs_isub dX12_reckons_105 ?_
          refine zs_ialdG dX12_reckons_106 (shm_5 hN) ?_
          refine zs_isub dX12_reckons_107 ?_
          refine zs_iastG dX12_reckons_108 (shm_5 hN) (fun m7 => ?_)
          refine zs_goto (tgt := 193) dX12_reckons_109 (by decide) ?_
          refine zs_iinc (fun y => [(3, .int y), (4, .int x1), (0, .ref (zz_a G 0)), (1, .int v1), (2, .int v2)]) dX12_reckons_193 4 rfl ci_1 (Nat.le_of_ble_eq_true rfl) (fun _ => rfl) (fun x8 => ?_)
          refine zs_goto (tgt := 4) dX12_reckons_196 (by decide) ?_
          refine zs_sub [2, 3, 4, 0] rfl ?_
          exact ih _ _ _ _
      · refine zs_aload_n dX12_reckons_47 rfl 1 rfl ?_
        refine zs_getR fl_X12_30 dX12_reckons_48 (shm_0 hN) rfl ?_
        refine zs_iload_n dX12_reckons_51 rfl 3 rfl ?_
        refine zs_iload dX12_reckons_52 0 rfl ?_
        refine zs_sipush (v := (1000 : Int32)) dX12_reckons_54 cs_1000 ?_
        refine zs_icmp_ge (tgt := 65) dX12_reckons_57 (by decide) ?_ ?_
        · refine zs_aload_n dX12_reckons_65 rfl 1 rfl ?_
          refine zs_getR fl_X12_33 dX12_reckons_66 (shm_0 hN) rfl ?_
          refine zs_iload dX12_reckons_69 0 rfl ?_
          refine zs_sipush (v := (1000 : Int32)) dX12_reckons_71 cs_1000 ?_
          refine zs_isub dX12_reckons_74 ?_
          refine zs_ialdG dX12_reckons_75 (shm_6 hN) ?_
          refine zs_sub [1, 2, 3, 4] rfl ?_
          exact t_X12_reckons_76 hN ih _ _ _ _ _ _
        · refine zs_iload dX12_reckons_60 0 rfl ?_
          refine zs_goto (tgt := 76) dX12_reckons_62 (by decide) ?_
          refine zs_sub [1, 2, 3, 4] rfl ?_
          exact t_X12_reckons_76 hN ih _ _ _ _ _ _
def f_X12_reckons  (p1 : Int32) (m : zz_Mem) : Option (Int32 × zz_Mem) :=
  f_X12_reckons_4 zz_fuel p1 (0 : Int32) (0 : Int32) m
theorem k_X12_reckons {l : Launch} {G : zz_G} (hN : 26 ≤ zz_N G) : ∀ (p1 : Int32) (m : zz_Mem), zz_Con zz_shM l G mX12_reckons 1 [.ref (zz_a G 0), .int p1] zz_vI zz_m2 (f_X12_reckons p1 m) m := by
  intro p1 m
  refine zz_con (lv := [(0, .ref (zz_a G 0)), (1, .int p1)]) (by decide +kernel) (Nat.le_of_ble_eq_true rfl) rfl ?_
  unfold f_X12_reckons
  refine zs_iconst (v := (0 : Int32)) dX12_reckons_0 ci_0 ?_
  refine zs_istore_n [(2, .int (0 : Int32)), (0, .ref (zz_a G 0)), (1, .int p1)] dX12_reckons_1 rfl (Nat.le_of_ble_eq_true rfl) rfl ?_
  refine zs_iconst (v := (0 : Int32)) dX12_reckons_2 ci_0 ?_
  refine zs_istore_n [(3, .int (0 : Int32)), (2, .int (0 : Int32)), (0, .ref (zz_a G 0)), (1, .int p1)] dX12_reckons_3 rfl (Nat.le_of_ble_eq_true rfl) rfl ?_
  refine zs_sub [2, 3, 1, 0] rfl ?_
  exact t_X12_reckons_4 hN zz_fuel _ _ _ _
/-! X12_isOpen: PillarDeskModel.isOpen(I)Z -/
theorem dX12_isOpen_0 : decode cX12_isOpen 0 = .ok (.iconst 0, 1) := by decide +kernel
theorem dX12_isOpen_1 : decode cX12_isOpen 1 = .ok (.istore_n 2, 1) := by decide +kernel
theorem dX12_isOpen_2 : decode cX12_isOpen 2 = .ok (.iconst 0, 1) := by decide +kernel
theorem dX12_isOpen_3 : decode cX12_isOpen 3 = .ok (.istore_n 3, 1) := by decide +kernel
theorem dX12_isOpen_4 : decode cX12_isOpen 4 = .ok (.iload_n 3, 1) := by decide +kernel
theorem dX12_isOpen_5 : decode cX12_isOpen 5 = .ok (.aload_n 0, 1) := by decide +kernel
theorem dX12_isOpen_6 : decode cX12_isOpen 6 = .ok (.getfield 13, 3) := by decide +kernel
theorem dX12_isOpen_9 : decode cX12_isOpen 9 = .ok (.iconst 3, 1) := by decide +kernel
theorem dX12_isOpen_10 : decode cX12_isOpen 10 = .ok (.iaload, 1) := by decide +kernel
theorem dX12_isOpen_11 : decode cX12_isOpen 11 = .ok (.if_icmp .ge 30, 3) := by decide +kernel
theorem dX12_isOpen_14 : decode cX12_isOpen 14 = .ok (.iload_n 2, 1) := by decide +kernel
theorem dX12_isOpen_15 : decode cX12_isOpen 15 = .ok (.aload_n 0, 1) := by decide +kernel
theorem dX12_isOpen_16 : decode cX12_isOpen 16 = .ok (.getfield 13, 3) := by decide +kernel
theorem dX12_isOpen_19 : decode cX12_isOpen 19 = .ok (.bipush 12, 2) := by decide +kernel
theorem dX12_isOpen_21 : decode cX12_isOpen 21 = .ok (.iload_n 3, 1) := by decide +kernel
theorem dX12_isOpen_22 : decode cX12_isOpen 22 = .ok (.iadd, 1) := by decide +kernel
theorem dX12_isOpen_23 : decode cX12_isOpen 23 = .ok (.iaload, 1) := by decide +kernel
theorem dX12_isOpen_24 : decode cX12_isOpen 24 = .ok (.iload_n 1, 1) := by decide +kernel
theorem dX12_isOpen_25 : decode cX12_isOpen 25 = .ok (.if_icmp .ne 7, 3) := by decide +kernel
theorem dX12_isOpen_28 : decode cX12_isOpen 28 = .ok (.iconst 1, 1) := by decide +kernel
theorem dX12_isOpen_29 : decode cX12_isOpen 29 = .ok (.goto 4, 3) := by decide +kernel
theorem dX12_isOpen_32 : decode cX12_isOpen 32 = .ok (.iconst 0, 1) := by decide +kernel
theorem dX12_isOpen_33 : decode cX12_isOpen 33 = .ok (.ior, 1) := by decide +kernel
theorem dX12_isOpen_34 : decode cX12_isOpen 34 = .ok (.istore_n 2, 1) := by decide +kernel
theorem dX12_isOpen_35 : decode cX12_isOpen 35 = .ok (.iinc 3 1, 3) := by decide +kernel
theorem dX12_isOpen_38 : decode cX12_isOpen 38 = .ok (.goto (-34), 3) := by decide +kernel
theorem dX12_isOpen_41 : decode cX12_isOpen 41 = .ok (.aload_n 0, 1) := by decide +kernel
theorem dX12_isOpen_42 : decode cX12_isOpen 42 = .ok (.getfield 13, 3) := by decide +kernel
theorem dX12_isOpen_45 : decode cX12_isOpen 45 = .ok (.iconst 1, 1) := by decide +kernel
theorem dX12_isOpen_46 : decode cX12_isOpen 46 = .ok (.iaload, 1) := by decide +kernel
theorem dX12_isOpen_47 : decode cX12_isOpen 47 = .ok (.iload_n 1, 1) := by decide +kernel
theorem dX12_isOpen_48 : decode cX12_isOpen 48 = .ok (.iadd, 1) := by decide +kernel
theorem dX12_isOpen_49 : decode cX12_isOpen 49 = .ok (.bipush 7, 2) := by decide +kernel
theorem dX12_isOpen_51 : decode cX12_isOpen 51 = .ok (.irem, 1) := by decide +kernel
theorem dX12_isOpen_52 : decode cX12_isOpen 52 = .ok (.istore_n 3, 1) := by decide +kernel
theorem dX12_isOpen_53 : decode cX12_isOpen 53 = .ok (.aload_n 0, 1) := by decide +kernel
theorem dX12_isOpen_54 : decode cX12_isOpen 54 = .ok (.getfield 13, 3) := by decide +kernel
theorem dX12_isOpen_57 : decode cX12_isOpen 57 = .ok (.bipush 7, 2) := by decide +kernel
theorem dX12_isOpen_59 : decode cX12_isOpen 59 = .ok (.iaload, 1) := by decide +kernel
theorem dX12_isOpen_60 : decode cX12_isOpen 60 = .ok (.ifCond .ne 18, 3) := by decide +kernel
theorem dX12_isOpen_63 : decode cX12_isOpen 63 = .ok (.iload_n 3, 1) := by decide +kernel
theorem dX12_isOpen_64 : decode cX12_isOpen 64 = .ok (.iconst 5, 1) := by decide +kernel
theorem dX12_isOpen_65 : decode cX12_isOpen 65 = .ok (.if_icmp .ge 11, 3) := by decide +kernel
theorem dX12_isOpen_68 : decode cX12_isOpen 68 = .ok (.iload_n 2, 1) := by decide +kernel
theorem dX12_isOpen_69 : decode cX12_isOpen 69 = .ok (.ifCond .ne 7, 3) := by decide +kernel
theorem dX12_isOpen_72 : decode cX12_isOpen 72 = .ok (.iconst 1, 1) := by decide +kernel
theorem dX12_isOpen_73 : decode cX12_isOpen 73 = .ok (.goto 4, 3) := by decide +kernel
theorem dX12_isOpen_76 : decode cX12_isOpen 76 = .ok (.iconst 0, 1) := by decide +kernel
theorem dX12_isOpen_77 : decode cX12_isOpen 77 = .ok (.ireturn, 1) := by decide +kernel
theorem dX12_isOpen_78 : decode cX12_isOpen 78 = .ok (.aload_n 0, 1) := by decide +kernel
theorem dX12_isOpen_79 : decode cX12_isOpen 79 = .ok (.getfield 33, 3) := by decide +kernel
theorem dX12_isOpen_82 : decode cX12_isOpen 82 = .ok (.iconst 5, 1) := by decide +kernel
theorem dX12_isOpen_83 : decode cX12_isOpen 83 = .ok (.iload_n 3, 1) := by decide +kernel
theorem dX12_isOpen_84 : decode cX12_isOpen 84 = .ok (.iastore, 1) := by decide +kernel
theorem dX12_isOpen_85 : decode cX12_isOpen 85 = .ok (.aload_n 0, 1) := by decide +kernel
theorem dX12_isOpen_86 : decode cX12_isOpen 86 = .ok (.getfield 33, 3) := by decide +kernel
theorem dX12_isOpen_89 : decode cX12_isOpen 89 = .ok (.bipush 6, 2) := by decide +kernel
theorem dX12_isOpen_91 : decode cX12_isOpen 91 = .ok (.iload_n 2, 1) := by decide +kernel
theorem dX12_isOpen_92 : decode cX12_isOpen 92 = .ok (.ifCond .eq 7, 3) := by decide +kernel
theorem dX12_isOpen_95 : decode cX12_isOpen 95 = .ok (.iconst 1, 1) := by decide +kernel
theorem dX12_isOpen_96 : decode cX12_isOpen 96 = .ok (.goto 4, 3) := by decide +kernel
theorem dX12_isOpen_99 : decode cX12_isOpen 99 = .ok (.iconst 0, 1) := by decide +kernel
theorem dX12_isOpen_100 : decode cX12_isOpen 100 = .ok (.iastore, 1) := by decide +kernel
theorem dX12_isOpen_101 : decode cX12_isOpen 101 = .ok (.aload_n 0, 1) := by decide +kernel
theorem dX12_isOpen_102 : decode cX12_isOpen 102 = .ok (.getfield 33, 3) := by decide +kernel
theorem dX12_isOpen_105 : decode cX12_isOpen 105 = .ok (.bipush 7, 2) := by decide +kernel
theorem dX12_isOpen_107 : decode cX12_isOpen 107 = .ok (.iload_n 1, 1) := by decide +kernel
theorem dX12_isOpen_108 : decode cX12_isOpen 108 = .ok (.iastore, 1) := by decide +kernel
theorem dX12_isOpen_109 : decode cX12_isOpen 109 = .ok (.aload_n 0, 1) := by decide +kernel
theorem dX12_isOpen_110 : decode cX12_isOpen 110 = .ok (.iconst 1, 1) := by decide +kernel
theorem dX12_isOpen_111 : decode cX12_isOpen 111 = .ok (.invokevirtual 239, 3) := by decide +kernel
theorem dX12_isOpen_114 : decode cX12_isOpen 114 = .ok (.iconst 1, 1) := by decide +kernel
theorem dX12_isOpen_115 : decode cX12_isOpen 115 = .ok (.if_icmp .ne 7, 3) := by decide +kernel
theorem dX12_isOpen_118 : decode cX12_isOpen 118 = .ok (.iconst 1, 1) := by decide +kernel
theorem dX12_isOpen_119 : decode cX12_isOpen 119 = .ok (.goto 4, 3) := by decide +kernel
theorem dX12_isOpen_122 : decode cX12_isOpen 122 = .ok (.iconst 0, 1) := by decide +kernel
theorem dX12_isOpen_123 : decode cX12_isOpen 123 = .ok (.ireturn, 1) := by decide +kernel
def f_X12_isOpen_100   (v1 : Int32) (s0 : Int32) (s1 : Int32) (m : zz_Mem) : Option (Int32 × zz_Mem) :=
  zz_ix s1 8 <| zz_letM (zz_setI m 6 s1.toNatClampNeg s0) fun m1 =>
  zz_letM (zz_setI m1 6 7 v1) fun m2 =>
  zz_bnd (f_X12_reckons (1 : Int32) m2) fun r3 m4 =>
  if r3 = (1 : Int32) then (
  some ((1 : Int32), m4))
  else (
  some ((0 : Int32), m4))
theorem t_X12_isOpen_100 {l : Launch} {G : zz_G} (hN : 26 ≤ zz_N G)  : ∀ (v1 : Int32) (s0 : Int32) (s1 : Int32) (m : zz_Mem), zz_Sim zz_shM l G mX12_isOpen 2 zz_vI zz_m2 (f_X12_isOpen_100 v1 s0 s1 m) 100 [(0, .ref (zz_a G 0)), (1, .int v1)] [.int s0, .int s1, .ref (zz_a G 6)] m := by
  intro v1 s0 s1 m
  unfold f_X12_isOpen_100
  refine zs_iastG dX12_isOpen_100 (shm_6 hN) (fun m1 => ?_)
  refine zs_aload_n dX12_isOpen_101 rfl 0 rfl ?_
  refine zs_getR fl_X12_33 dX12_isOpen_102 (shm_0 hN) rfl ?_
  refine zs_bipush (v := (7 : Int32)) dX12_isOpen_105 cb_7 ?_
  refine zs_iload_n dX12_isOpen_107 rfl 1 rfl ?_
  refine zs_iastC dX12_isOpen_108 (shm_6 hN) vin_7_8 clp_7 (fun m2 => ?_)
  refine zs_aload_n dX12_isOpen_109 rfl 0 rfl ?_
  refine zs_iconst (v := (1 : Int32)) dX12_isOpen_110 ci_1 ?_
  refine zs_cV_iW (rest := []) (k_X12_reckons hN _ _) dX12_isOpen_111 lv_X12_239 ok_X12_reckons (zz_rcv_o (shm_0 hN) rfl) (Nat.le_of_ble_eq_true rfl) rfl rfl (Nat.le_of_ble_eq_true rfl) (fun r3 m4 => ?_)
  refine zs_iconst (v := (1 : Int32)) dX12_isOpen_114 ci_1 ?_
  refine zs_icmp_ne (tgt := 122) dX12_isOpen_115 (by decide) ?_ ?_
  · refine zs_iconst (v := (0 : Int32)) dX12_isOpen_122 ci_0 ?_
    exact zs_zret dX12_isOpen_123 rfl rfl rfl rfl
  · refine zs_iconst (v := (1 : Int32)) dX12_isOpen_118 ci_1 ?_
    refine zs_goto (tgt := 123) dX12_isOpen_119 (by decide) ?_
    exact zs_zret dX12_isOpen_123 rfl rfl rfl rfl
def f_X12_isOpen_41   (v1 : Int32) (v2 : Int32) (m : zz_Mem) : Option (Int32 × zz_Mem) :=
  zz_letI (((m.1 1 1) + v1) - ((m.1 1 1) + v1) / (7 : Int32) * (7 : Int32)) fun x1 =>
  if (m.1 1 7) = 0 then (
  if (5 : Int32) ≤ x1 then (
  some ((0 : Int32), m))
  else (
  if v2 = 0 then (
  some ((1 : Int32), m))
  else (
  some ((0 : Int32), m))))
  else (
  zz_letM (zz_setI m 6 5 x1) fun m2 =>
  if v2 = 0 then (
  f_X12_isOpen_100 v1 (0 : Int32) (6 : Int32) m2)
  else (
  f_X12_isOpen_100 v1 (1 : Int32) (6 : Int32) m2))
theorem t_X12_isOpen_41 {l : Launch} {G : zz_G} (hN : 26 ≤ zz_N G)  : ∀ (v1 : Int32) (v2 : Int32) (m : zz_Mem), zz_Sim zz_shM l G mX12_isOpen 2 zz_vI zz_m2 (f_X12_isOpen_41 v1 v2 m) 41 [(0, .ref (zz_a G 0)), (1, .int v1), (2, .int v2)] [] m := by
  intro v1 v2 m
  unfold f_X12_isOpen_41
  refine zs_aload_n dX12_isOpen_41 rfl 0 rfl ?_
  refine zs_getR fl_X12_13 dX12_isOpen_42 (shm_0 hN) rfl ?_
  refine zs_iconst (v := (1 : Int32)) dX12_isOpen_45 ci_1 ?_
  refine zs_ialdC dX12_isOpen_46 (shm_1 hN) vin_1_3531 clp_1 ?_
  refine zs_iload_n dX12_isOpen_47 rfl 1 rfl ?_
  refine zs_iadd dX12_isOpen_48 ?_
  refine zs_bipush (v := (7 : Int32)) dX12_isOpen_49 cb_7 ?_
  refine zs_irem dX12_isOpen_51 (by decide) ?_
  refine zs_letI (fun x1 => ?_)
  refine zs_istore_n [(3, .int x1), (0, .ref (zz_a G 0)), (1, .int v1), (2, .int v2)] dX12_isOpen_52 rfl (Nat.le_of_ble_eq_true rfl) rfl ?_
  refine zs_aload_n dX12_isOpen_53 rfl 1 rfl ?_
  refine zs_getR fl_X12_13 dX12_isOpen_54 (shm_0 hN) rfl ?_
  refine zs_bipush (v := (7 : Int32)) dX12_isOpen_57 cb_7 ?_
  refine zs_ialdC dX12_isOpen_59 (shm_1 hN) vin_7_3531 clp_7 ?_
  refine zs_if_ne (tgt := 78) dX12_isOpen_60 (by decide) ?_ ?_
  · refine zs_aload_n dX12_isOpen_78 rfl 1 rfl ?_
    refine zs_getR fl_X12_33 dX12_isOpen_79 (shm_0 hN) rfl ?_
    refine zs_iconst (v := (5 : Int32)) dX12_isOpen_82 ci_5 ?_
    refine zs_iload_n dX12_isOpen_83 rfl 0 rfl ?_
    refine zs_iastC dX12_isOpen_84 (shm_6 hN) vin_5_8 clp_5 (fun m2 => ?_)
    refine zs_aload_n dX12_isOpen_85 rfl 1 rfl ?_
    refine zs_getR fl_X12_33 dX12_isOpen_86 (shm_0 hN) rfl ?_
    refine zs_bipush (v := (6 : Int32)) dX12_isOpen_89 cb_6 ?_
    refine zs_iload_n dX12_isOpen_91 rfl 3 rfl ?_
    refine zs_if_eq (tgt := 99) dX12_isOpen_92 (by decide) ?_ ?_
    · refine zs_iconst (v := (0 : Int32)) dX12_isOpen_99 ci_0 ?_
      refine zs_sub [1, 2] rfl ?_
      exact t_X12_isOpen_100 hN _ _ _ _
    · refine zs_iconst (v := (1 : Int32)) dX12_isOpen_95 ci_1 ?_
      refine zs_goto (tgt := 100) dX12_isOpen_96 (by decide) ?_
      refine zs_sub [1, 2] rfl ?_
      exact t_X12_isOpen_100 hN _ _ _ _
  · refine zs_iload_n dX12_isOpen_63 rfl 0 rfl ?_
    refine zs_iconst (v := (5 : Int32)) dX12_isOpen_64 ci_5 ?_
    refine zs_icmp_ge (tgt := 76) dX12_isOpen_65 (by decide) ?_ ?_
    · refine zs_iconst (v := (0 : Int32)) dX12_isOpen_76 ci_0 ?_
      exact zs_zret dX12_isOpen_77 rfl rfl rfl rfl
    · refine zs_iload_n dX12_isOpen_68 rfl 3 rfl ?_
      refine zs_if_ne (tgt := 76) dX12_isOpen_69 (by decide) ?_ ?_
      · refine zs_iconst (v := (0 : Int32)) dX12_isOpen_76 ci_0 ?_
        exact zs_zret dX12_isOpen_77 rfl rfl rfl rfl
      · refine zs_iconst (v := (1 : Int32)) dX12_isOpen_72 ci_1 ?_
        refine zs_goto (tgt := 77) dX12_isOpen_73 (by decide) ?_
        exact zs_zret dX12_isOpen_77 rfl rfl rfl rfl
def f_X12_isOpen_33  (k4 : Int32 → Int32 → Int32 → zz_Mem → Option (Int32 × zz_Mem)) (v1 : Int32) (v3 : Int32) (s0 : Int32) (s1 : Int32) (m : zz_Mem) : Option (Int32 × zz_Mem) :=
  zz_letI (s1 ||| s0) fun x1 =>
  zz_letI (v3 + (1 : Int32)) fun x2 =>
  k4 v1 x1 x2 m
theorem t_X12_isOpen_33 {l : Launch} {G : zz_G} (hN : 26 ≤ zz_N G) {k4 : Int32 → Int32 → Int32 → zz_Mem → Option (Int32 × zz_Mem)} (hk4 : ∀ (v1 : Int32) (v2 : Int32) (v3 : Int32) (m : zz_Mem), zz_Sim zz_shM l G mX12_isOpen 2 zz_vI zz_m2 (k4 v1 v2 v3 m) 4 [(0, .ref (zz_a G 0)), (1, .int v1), (2, .int v2), (3, .int v3)] [] m) : ∀ (v1 : Int32) (v3 : Int32) (s0 : Int32) (s1 : Int32) (m : zz_Mem), zz_Sim zz_shM l G mX12_isOpen 2 zz_vI zz_m2 (f_X12_isOpen_33 k4 v1 v3 s0 s1 m) 33 [(0, .ref (zz_a G 0)), (1, .int v1), (3, .int v3)] [.int s0, .int s1] m := by
  intro v1 v3 s0 s1 m
  unfold f_X12_isOpen_33
  refine zs_ior dX12_isOpen_33 ?_
  refine zs_letI (fun x1 => ?_)
  refine zs_istore_n [(2, .int x1), (0, .ref (zz_a G 0)), (1, .int v1), (3, .int v3)] dX12_isOpen_34 rfl (Nat.le_of_ble_eq_true rfl) rfl ?_
  refine zs_iinc (fun y => [(3, .int y), (2, .int x1), (0, .ref (zz_a G 0)), (1, .int v1)]) dX12_isOpen_35 3 rfl ci_1 (Nat.le_of_ble_eq_true rfl) (fun _ => rfl) (fun x2 => ?_)
  refine zs_goto (tgt := 4) dX12_isOpen_38 (by decide) ?_
  refine zs_sub [2, 3, 1, 0] rfl ?_
  exact hk4 _ _ _ _
def f_X12_isOpen_4   : Nat → Int32 → Int32 → Int32 → zz_Mem → Option (Int32 × zz_Mem)
  | 0, _, _, _, _ => none
  | n + 1, v1, v2, v3, m =>
  if (m.1 1 3) ≤ v3 then (
  f_X12_isOpen_41 v1 v2 m)
  else (
  zz_ix ((12 : Int32) + v3) 3531 <|
  if (m.1 1 ((12 : Int32) + v3).toNatClampNeg) = v1 then (
  f_X12_isOpen_33 (f_X12_isOpen_4 n) v1 v3 (1 : Int32) v2 m)
  else (
  f_X12_isOpen_33 (f_X12_isOpen_4 n) v1 v3 (0 : Int32) v2 m))
theorem t_X12_isOpen_4 {l : Launch} {G : zz_G} (hN : 26 ≤ zz_N G)  : ∀ (n : Nat) (v1 : Int32) (v2 : Int32) (v3 : Int32) (m : zz_Mem), zz_Sim zz_shM l G mX12_isOpen 2 zz_vI zz_m2 (f_X12_isOpen_4 n v1 v2 v3 m) 4 [(0, .ref (zz_a G 0)), (1, .int v1), (2, .int v2), (3, .int v3)] [] m := by
  intro n
  induction n with
  | zero => intro _ _ _ _; exact zs_none
  | succ n ih =>
    intro v1 v2 v3 m
    rw [f_X12_isOpen_4]
    refine zs_iload_n dX12_isOpen_4 rfl 3 rfl ?_
    refine zs_aload_n dX12_isOpen_5 rfl 0 rfl ?_
    refine zs_getR fl_X12_13 dX12_isOpen_6 (shm_0 hN) rfl ?_
    refine zs_iconst (v := (3 : Int32)) dX12_isOpen_9 ci_3 ?_
    refine zs_ialdC dX12_isOpen_10 (shm_1 hN) vin_3_3531 clp_3 ?_
    refine zs_icmp_ge (tgt := 41) dX12_isOpen_11 (by decide) ?_ ?_
    · refine zs_sub [0, 1, 2] rfl ?_
      exact t_X12_isOpen_41 hN _ _ _
    · refine zs_iload_n dX12_isOpen_14 rfl 2 rfl ?_
      refine zs_aload_n dX12_isOpen_15 rfl 0 rfl ?_
      refine zs_getR fl_X12_13 dX12_isOpen_16 (shm_0 hN) rfl ?_
      refine zs_bipush (v := (12 : Int32)) dX12_isOpen_19 cb_12 ?_
      refine zs_iload_n dX12_isOpen_21 rfl 3 rfl ?_
      refine zs_iadd dX12_isOpen_22 ?_
      refine zs_ialdG dX12_isOpen_23 (shm_1 hN) ?_
      refine zs_iload_n dX12_isOpen_24 rfl 1 rfl ?_
      refine zs_icmp_ne (tgt := 32) dX12_isOpen_25 (by decide) ?_ ?_
      · refine zs_iconst (v := (0 : Int32)) dX12_isOpen_32 ci_0 ?_
        refine zs_sub [0, 1, 3] rfl ?_
        exact t_X12_isOpen_33 hN ih _ _ _ _ _
      · refine zs_iconst (v := (1 : Int32)) dX12_isOpen_28 ci_1 ?_
        refine zs_goto (tgt := 33) dX12_isOpen_29 (by decide) ?_
        refine zs_sub [0, 1, 3] rfl ?_
        exact t_X12_isOpen_33 hN ih _ _ _ _ _
def f_X12_isOpen  (p1 : Int32) (m : zz_Mem) : Option (Int32 × zz_Mem) :=
  f_X12_isOpen_4 zz_fuel p1 (0 : Int32) (0 : Int32) m
theorem k_X12_isOpen {l : Launch} {G : zz_G} (hN : 26 ≤ zz_N G) : ∀ (p1 : Int32) (m : zz_Mem), zz_Con zz_shM l G mX12_isOpen 2 [.ref (zz_a G 0), .int p1] zz_vI zz_m2 (f_X12_isOpen p1 m) m := by
  intro p1 m
  refine zz_con (lv := [(0, .ref (zz_a G 0)), (1, .int p1)]) (by decide +kernel) (Nat.le_of_ble_eq_true rfl) rfl ?_
  unfold f_X12_isOpen
  refine zs_iconst (v := (0 : Int32)) dX12_isOpen_0 ci_0 ?_
  refine zs_istore_n [(2, .int (0 : Int32)), (0, .ref (zz_a G 0)), (1, .int p1)] dX12_isOpen_1 rfl (Nat.le_of_ble_eq_true rfl) rfl ?_
  refine zs_iconst (v := (0 : Int32)) dX12_isOpen_2 ci_0 ?_
  refine zs_istore_n [(3, .int (0 : Int32)), (2, .int (0 : Int32)), (0, .ref (zz_a G 0)), (1, .int p1)] dX12_isOpen_3 rfl (Nat.le_of_ble_eq_true rfl) rfl ?_
  refine zs_sub [2, 3, 1, 0] rfl ?_
  exact t_X12_isOpen_4 hN zz_fuel _ _ _ _
/-! X12_offOf: PillarDeskModel.offOf(I)I -/
theorem dX12_offOf_0 : decode cX12_offOf 0 = .ok (.iconst 0, 1) := by decide +kernel
theorem dX12_offOf_1 : decode cX12_offOf 1 = .ok (.istore_n 2, 1) := by decide +kernel
theorem dX12_offOf_2 : decode cX12_offOf 2 = .ok (.iload_n 2, 1) := by decide +kernel
theorem dX12_offOf_3 : decode cX12_offOf 3 = .ok (.bipush 30, 2) := by decide +kernel
theorem dX12_offOf_5 : decode cX12_offOf 5 = .ok (.if_icmp .gt 23, 3) := by decide +kernel
theorem dX12_offOf_8 : decode cX12_offOf 8 = .ok (.aload_n 0, 1) := by decide +kernel
theorem dX12_offOf_9 : decode cX12_offOf 9 = .ok (.iload_n 1, 1) := by decide +kernel
theorem dX12_offOf_10 : decode cX12_offOf 10 = .ok (.iload_n 2, 1) := by decide +kernel
theorem dX12_offOf_11 : decode cX12_offOf 11 = .ok (.iadd, 1) := by decide +kernel
theorem dX12_offOf_12 : decode cX12_offOf 12 = .ok (.invokevirtual 242, 3) := by decide +kernel
theorem dX12_offOf_15 : decode cX12_offOf 15 = .ok (.ifCond .eq 7, 3) := by decide +kernel
theorem dX12_offOf_18 : decode cX12_offOf 18 = .ok (.iload_n 1, 1) := by decide +kernel
theorem dX12_offOf_19 : decode cX12_offOf 19 = .ok (.iload_n 2, 1) := by decide +kernel
theorem dX12_offOf_20 : decode cX12_offOf 20 = .ok (.iadd, 1) := by decide +kernel
theorem dX12_offOf_21 : decode cX12_offOf 21 = .ok (.ireturn, 1) := by decide +kernel
theorem dX12_offOf_22 : decode cX12_offOf 22 = .ok (.iinc 2 1, 3) := by decide +kernel
theorem dX12_offOf_25 : decode cX12_offOf 25 = .ok (.goto (-23), 3) := by decide +kernel
theorem dX12_offOf_28 : decode cX12_offOf 28 = .ok (.iload_n 1, 1) := by decide +kernel
theorem dX12_offOf_29 : decode cX12_offOf 29 = .ok (.ireturn, 1) := by decide +kernel
def f_X12_offOf_2   : Nat → Int32 → Int32 → zz_Mem → Option (Int32 × zz_Mem)
  | 0, _, _, _ => none
  | n + 1, v1, v2, m =>
  if (30 : Int32) < v2 then (
  some (v1, m))
  else (
  zz_bnd (f_X12_isOpen (v1 + v2) m) fun r1 m2 =>
  if r1 = 0 then (
  zz_letI (v2 + (1 : Int32)) fun x3 =>
  f_X12_offOf_2 n v1 x3 m2)
  else (
  some (v1 + v2, m2)))
theorem t_X12_offOf_2 {l : Launch} {G : zz_G} (hN : 26 ≤ zz_N G)  : ∀ (n : Nat) (v1 : Int32) (v2 : Int32) (m : zz_Mem), zz_Sim zz_shM l G mX12_offOf 3 zz_vI zz_m2 (f_X12_offOf_2 n v1 v2 m) 2 [(0, .ref (zz_a G 0)), (1, .int v1), (2, .int v2)] [] m := by
  intro n
  induction n with
  | zero => intro _ _ _; exact zs_none
  | succ n ih =>
    intro v1 v2 m
    rw [f_X12_offOf_2]
    refine zs_iload_n dX12_offOf_2 rfl 2 rfl ?_
    refine zs_bipush (v := (30 : Int32)) dX12_offOf_3 cb_30 ?_
    refine zs_icmp_gt (tgt := 28) dX12_offOf_5 (by decide) ?_ ?_
    · refine zs_iload_n dX12_offOf_28 rfl 1 rfl ?_
      exact zs_iret dX12_offOf_29 rfl rfl rfl
    · refine zs_aload_n dX12_offOf_8 rfl 0 rfl ?_
      refine zs_iload_n dX12_offOf_9 rfl 1 rfl ?_
      refine zs_iload_n dX12_offOf_10 rfl 2 rfl ?_
      refine zs_iadd dX12_offOf_11 ?_
      refine zs_cV_iW (rest := []) (k_X12_isOpen hN _ _) dX12_offOf_12 lv_X12_242 ok_X12_isOpen (zz_rcv_o (shm_0 hN) rfl) (Nat.le_of_ble_eq_true rfl) rfl rfl (Nat.le_of_ble_eq_true rfl) (fun r1 m2 => ?_)
      refine zs_if_eq (tgt := 22) dX12_offOf_15 (by decide) ?_ ?_
      · refine zs_iinc (fun y => [(2, .int y), (0, .ref (zz_a G 0)), (1, .int v1)]) dX12_offOf_22 2 rfl ci_1 (Nat.le_of_ble_eq_true rfl) (fun _ => rfl) (fun x3 => ?_)
        refine zs_goto (tgt := 2) dX12_offOf_25 (by decide) ?_
        refine zs_sub [1, 2, 0] rfl ?_
        exact ih _ _ _
      · refine zs_iload_n dX12_offOf_18 rfl 1 rfl ?_
        refine zs_iload_n dX12_offOf_19 rfl 2 rfl ?_
        refine zs_iadd dX12_offOf_20 ?_
        exact zs_iret dX12_offOf_21 rfl rfl rfl
def f_X12_offOf  (p1 : Int32) (m : zz_Mem) : Option (Int32 × zz_Mem) :=
  f_X12_offOf_2 zz_fuel p1 (0 : Int32) m
theorem k_X12_offOf {l : Launch} {G : zz_G} (hN : 26 ≤ zz_N G) : ∀ (p1 : Int32) (m : zz_Mem), zz_Con zz_shM l G mX12_offOf 3 [.ref (zz_a G 0), .int p1] zz_vI zz_m2 (f_X12_offOf p1 m) m := by
  intro p1 m
  refine zz_con (lv := [(0, .ref (zz_a G 0)), (1, .int p1)]) (by decide +kernel) (Nat.le_of_ble_eq_true rfl) rfl ?_
  unfold f_X12_offOf
  refine zs_iconst (v := (0 : Int32)) dX12_offOf_0 ci_0 ?_
  refine zs_istore_n [(2, .int (0 : Int32)), (0, .ref (zz_a G 0)), (1, .int p1)] dX12_offOf_1 rfl (Nat.le_of_ble_eq_true rfl) rfl ?_
  refine zs_sub [1, 2, 0] rfl ?_
  exact t_X12_offOf_2 hN zz_fuel _ _ _
/-! X12_laysPeriods: PillarDeskModel.laysPeriods(I)V -/
theorem dX12_laysPeriods_0 : decode cX12_laysPeriods 0 = .ok (.aload_n 0, 1) := by decide +kernel
theorem dX12_laysPeriods_1 : decode cX12_laysPeriods 1 = .ok (.getfield 45, 3) := by decide +kernel
theorem dX12_laysPeriods_4 : decode cX12_laysPeriods 4 = .ok (.iload_n 1, 1) := by decide +kernel
theorem dX12_laysPeriods_5 : decode cX12_laysPeriods 5 = .ok (.iconst 0, 1) := by decide +kernel
theorem dX12_laysPeriods_6 : decode cX12_laysPeriods 6 = .ok (.iastore, 1) := by decide +kernel
theorem dX12_laysPeriods_7 : decode cX12_laysPeriods 7 = .ok (.aload_n 0, 1) := by decide +kernel
theorem dX12_laysPeriods_8 : decode cX12_laysPeriods 8 = .ok (.getfield 13, 3) := by decide +kernel
theorem dX12_laysPeriods_11 : decode cX12_laysPeriods 11 = .ok (.bipush 24, 2) := by decide +kernel
theorem dX12_laysPeriods_13 : decode cX12_laysPeriods 13 = .ok (.iload_n 1, 1) := by decide +kernel
theorem dX12_laysPeriods_14 : decode cX12_laysPeriods 14 = .ok (.iadd, 1) := by decide +kernel
theorem dX12_laysPeriods_15 : decode cX12_laysPeriods 15 = .ok (.iaload, 1) := by decide +kernel
theorem dX12_laysPeriods_16 : decode cX12_laysPeriods 16 = .ok (.iconst 2, 1) := by decide +kernel
theorem dX12_laysPeriods_17 : decode cX12_laysPeriods 17 = .ok (.if_icmp .eq 4, 3) := by decide +kernel
theorem dX12_laysPeriods_20 : decode cX12_laysPeriods 20 = .ok (.return_, 1) := by decide +kernel
theorem dX12_laysPeriods_21 : decode cX12_laysPeriods 21 = .ok (.aload_n 0, 1) := by decide +kernel
theorem dX12_laysPeriods_22 : decode cX12_laysPeriods 22 = .ok (.getfield 13, 3) := by decide +kernel
theorem dX12_laysPeriods_25 : decode cX12_laysPeriods 25 = .ok (.bipush 40, 2) := by decide +kernel
theorem dX12_laysPeriods_27 : decode cX12_laysPeriods 27 = .ok (.iload_n 1, 1) := by decide +kernel
theorem dX12_laysPeriods_28 : decode cX12_laysPeriods 28 = .ok (.iadd, 1) := by decide +kernel
theorem dX12_laysPeriods_29 : decode cX12_laysPeriods 29 = .ok (.iaload, 1) := by decide +kernel
theorem dX12_laysPeriods_30 : decode cX12_laysPeriods 30 = .ok (.istore_n 2, 1) := by decide +kernel
theorem dX12_laysPeriods_31 : decode cX12_laysPeriods 31 = .ok (.iload_n 2, 1) := by decide +kernel
theorem dX12_laysPeriods_32 : decode cX12_laysPeriods 32 = .ok (.aload_n 0, 1) := by decide +kernel
theorem dX12_laysPeriods_33 : decode cX12_laysPeriods 33 = .ok (.getfield 13, 3) := by decide +kernel
theorem dX12_laysPeriods_36 : decode cX12_laysPeriods 36 = .ok (.bipush 48, 2) := by decide +kernel
theorem dX12_laysPeriods_38 : decode cX12_laysPeriods 38 = .ok (.iload_n 1, 1) := by decide +kernel
theorem dX12_laysPeriods_39 : decode cX12_laysPeriods 39 = .ok (.iadd, 1) := by decide +kernel
theorem dX12_laysPeriods_40 : decode cX12_laysPeriods 40 = .ok (.iaload, 1) := by decide +kernel
theorem dX12_laysPeriods_41 : decode cX12_laysPeriods 41 = .ok (.if_icmp .le 18, 3) := by decide +kernel
theorem dX12_laysPeriods_44 : decode cX12_laysPeriods 44 = .ok (.iload_n 2, 1) := by decide +kernel
theorem dX12_laysPeriods_45 : decode cX12_laysPeriods 45 = .ok (.aload_n 0, 1) := by decide +kernel
theorem dX12_laysPeriods_46 : decode cX12_laysPeriods 46 = .ok (.getfield 13, 3) := by decide +kernel
theorem dX12_laysPeriods_49 : decode cX12_laysPeriods 49 = .ok (.bipush 48, 2) := by decide +kernel
theorem dX12_laysPeriods_51 : decode cX12_laysPeriods 51 = .ok (.iload_n 1, 1) := by decide +kernel
theorem dX12_laysPeriods_52 : decode cX12_laysPeriods 52 = .ok (.iadd, 1) := by decide +kernel
theorem dX12_laysPeriods_53 : decode cX12_laysPeriods 53 = .ok (.iaload, 1) := by decide +kernel
theorem dX12_laysPeriods_54 : decode cX12_laysPeriods 54 = .ok (.isub, 1) := by decide +kernel
theorem dX12_laysPeriods_55 : decode cX12_laysPeriods 55 = .ok (.istore_n 2, 1) := by decide +kernel
theorem dX12_laysPeriods_56 : decode cX12_laysPeriods 56 = .ok (.goto (-25), 3) := by decide +kernel
theorem dX12_laysPeriods_59 : decode cX12_laysPeriods 59 = .ok (.iload_n 2, 1) := by decide +kernel
theorem dX12_laysPeriods_60 : decode cX12_laysPeriods 60 = .ok (.istore_n 3, 1) := by decide +kernel
theorem dX12_laysPeriods_61 : decode cX12_laysPeriods 61 = .ok (.iload_n 3, 1) := by decide +kernel
theorem dX12_laysPeriods_62 : decode cX12_laysPeriods 62 = .ok (.aload_n 0, 1) := by decide +kernel
theorem dX12_laysPeriods_63 : decode cX12_laysPeriods 63 = .ok (.getfield 13, 3) := by decide +kernel
theorem dX12_laysPeriods_66 : decode cX12_laysPeriods 66 = .ok (.bipush 40, 2) := by decide +kernel
theorem dX12_laysPeriods_68 : decode cX12_laysPeriods 68 = .ok (.iload_n 1, 1) := by decide +kernel
theorem dX12_laysPeriods_69 : decode cX12_laysPeriods 69 = .ok (.iadd, 1) := by decide +kernel
theorem dX12_laysPeriods_70 : decode cX12_laysPeriods 70 = .ok (.iaload, 1) := by decide +kernel
theorem dX12_laysPeriods_71 : decode cX12_laysPeriods 71 = .ok (.if_icmp .gt 49, 3) := by decide +kernel
theorem dX12_laysPeriods_74 : decode cX12_laysPeriods 74 = .ok (.aload_n 0, 1) := by decide +kernel
theorem dX12_laysPeriods_75 : decode cX12_laysPeriods 75 = .ok (.getfield 48, 3) := by decide +kernel
theorem dX12_laysPeriods_78 : decode cX12_laysPeriods 78 = .ok (.bipush 34, 2) := by decide +kernel
theorem dX12_laysPeriods_80 : decode cX12_laysPeriods 80 = .ok (.iload_n 1, 1) := by decide +kernel
theorem dX12_laysPeriods_81 : decode cX12_laysPeriods 81 = .ok (.imul, 1) := by decide +kernel
theorem dX12_laysPeriods_82 : decode cX12_laysPeriods 82 = .ok (.aload_n 0, 1) := by decide +kernel
theorem dX12_laysPeriods_83 : decode cX12_laysPeriods 83 = .ok (.getfield 45, 3) := by decide +kernel
theorem dX12_laysPeriods_86 : decode cX12_laysPeriods 86 = .ok (.iload_n 1, 1) := by decide +kernel
theorem dX12_laysPeriods_87 : decode cX12_laysPeriods 87 = .ok (.iaload, 1) := by decide +kernel
theorem dX12_laysPeriods_88 : decode cX12_laysPeriods 88 = .ok (.iadd, 1) := by decide +kernel
theorem dX12_laysPeriods_89 : decode cX12_laysPeriods 89 = .ok (.aload_n 0, 1) := by decide +kernel
theorem dX12_laysPeriods_90 : decode cX12_laysPeriods 90 = .ok (.iload_n 3, 1) := by decide +kernel
theorem dX12_laysPeriods_91 : decode cX12_laysPeriods 91 = .ok (.invokevirtual 245, 3) := by decide +kernel
theorem dX12_laysPeriods_94 : decode cX12_laysPeriods 94 = .ok (.iastore, 1) := by decide +kernel
theorem dX12_laysPeriods_95 : decode cX12_laysPeriods 95 = .ok (.aload_n 0, 1) := by decide +kernel
theorem dX12_laysPeriods_96 : decode cX12_laysPeriods 96 = .ok (.getfield 45, 3) := by decide +kernel
theorem dX12_laysPeriods_99 : decode cX12_laysPeriods 99 = .ok (.iload_n 1, 1) := by decide +kernel
theorem dX12_laysPeriods_100 : decode cX12_laysPeriods 100 = .ok (.dup2, 1) := by decide +kernel
theorem dX12_laysPeriods_101 : decode cX12_laysPeriods 101 = .ok (.iaload, 1) := by decide +kernel
theorem dX12_laysPeriods_102 : decode cX12_laysPeriods 102 = .ok (.iconst 1, 1) := by decide +kernel
theorem dX12_laysPeriods_103 : decode cX12_laysPeriods 103 = .ok (.iadd, 1) := by decide +kernel
theorem dX12_laysPeriods_104 : decode cX12_laysPeriods 104 = .ok (.iastore, 1) := by decide +kernel
theorem dX12_laysPeriods_105 : decode cX12_laysPeriods 105 = .ok (.iload_n 3, 1) := by decide +kernel
theorem dX12_laysPeriods_106 : decode cX12_laysPeriods 106 = .ok (.aload_n 0, 1) := by decide +kernel
theorem dX12_laysPeriods_107 : decode cX12_laysPeriods 107 = .ok (.getfield 13, 3) := by decide +kernel
theorem dX12_laysPeriods_110 : decode cX12_laysPeriods 110 = .ok (.bipush 48, 2) := by decide +kernel
theorem dX12_laysPeriods_112 : decode cX12_laysPeriods 112 = .ok (.iload_n 1, 1) := by decide +kernel
theorem dX12_laysPeriods_113 : decode cX12_laysPeriods 113 = .ok (.iadd, 1) := by decide +kernel
theorem dX12_laysPeriods_114 : decode cX12_laysPeriods 114 = .ok (.iaload, 1) := by decide +kernel
theorem dX12_laysPeriods_115 : decode cX12_laysPeriods 115 = .ok (.iadd, 1) := by decide +kernel
theorem dX12_laysPeriods_116 : decode cX12_laysPeriods 116 = .ok (.istore_n 3, 1) := by decide +kernel
theorem dX12_laysPeriods_117 : decode cX12_laysPeriods 117 = .ok (.goto (-56), 3) := by decide +kernel
theorem dX12_laysPeriods_120 : decode cX12_laysPeriods 120 = .ok (.return_, 1) := by decide +kernel
def f_X12_laysPeriods_61   : Nat → Int32 → Int32 → zz_Mem → Option zz_Mem
  | 0, _, _, _ => none
  | n + 1, v1, v3, m =>
  zz_ix ((40 : Int32) + v1) 3531 <|
  if (m.1 1 ((40 : Int32) + v1).toNatClampNeg) < v3 then (
  some m)
  else (
  zz_ix v1 8 <|
  zz_bnd (f_X12_offOf v3 m) fun r1 m2 =>
  zz_ix (((34 : Int32) * v1) + (m.1 10 v1.toNatClampNeg)) 272 <| zz_letM (zz_setI m2 11 (((34 : Int32) * v1) + (m.1 10 v1.toNatClampNeg)).toNatClampNeg r1) fun m3 =>
  zz_ix v1 8 <|
  zz_ix v1 8 <| zz_letM (zz_setI m3 10 v1.toNatClampNeg ((m3.1 10 v1.toNatClampNeg) + (1 : Int32))) fun m4 =>
  zz_ix ((48 : Int32) + v1) 3531 <|
  zz_letI (v3 + (m4.1 1 ((48 : Int32) + v1).toNatClampNeg)) fun x5 =>
  f_X12_laysPeriods_61 n v1 x5 m4)
theorem t_X12_laysPeriods_61 {l : Launch} {G : zz_G} (hN : 26 ≤ zz_N G)  : ∀ (n : Nat) (v1 : Int32) (v3 : Int32) (m : zz_Mem), zz_Sim zz_shM l G mX12_laysPeriods 4 zz_vV zz_mV (f_X12_laysPeriods_61 n v1 v3 m) 61 [(0, .ref (zz_a G 0)), (1, .int v1), (3, .int v3)] [] m := by
  intro n
  induction n with
  | zero => intro _ _ _; exact zs_none
  | succ n ih =>
    intro v1 v3 m
    rw [f_X12_laysPeriods_61]
    refine zs_iload_n dX12_laysPeriods_61 rfl 2 rfl ?_
    refine zs_aload_n dX12_laysPeriods_62 rfl 0 rfl ?_
    refine zs_getR fl_X12_13 dX12_laysPeriods_63 (shm_0 hN) rfl ?_
    refine zs_bipush (v := (40 : Int32)) dX12_laysPeriods_66 cb_40 ?_
    refine zs_iload_n dX12_laysPeriods_68 rfl 1 rfl ?_
    refine zs_iadd dX12_laysPeriods_69 ?_
    refine zs_ialdG dX12_laysPeriods_70 (shm_1 hN) ?_
    refine zs_icmp_gt (tgt := 120) dX12_laysPeriods_71 (by decide) ?_ ?_
    · exact zs_vret dX12_laysPeriods_120 rfl rfl rfl
    · refine zs_aload_n dX12_laysPeriods_74 rfl 0 rfl ?_
      refine zs_getR fl_X12_48 dX12_laysPeriods_75 (shm_0 hN) rfl ?_
      refine zs_bipush (v := (34 : Int32)) dX12_laysPeriods_78 cb_34 ?_
      refine zs_iload_n dX12_laysPeriods_80 rfl 1 rfl ?_
      refine zs_imul dX12_laysPeriods_81 ?_
      refine zs_aload_n dX12_laysPeriods_82 rfl 0 rfl ?_
      refine zs_getR fl_X12_45 dX12_laysPeriods_83 (shm_0 hN) rfl ?_
      refine zs_iload_n dX12_laysPeriods_86 rfl 1 rfl ?_
      refine zs_ialdG dX12_laysPeriods_87 (shm_10 hN) ?_
      refine zs_iadd dX12_laysPeriods_88 ?_
      refine zs_aload_n dX12_laysPeriods_89 rfl 0 rfl ?_
      refine zs_iload_n dX12_laysPeriods_90 rfl 2 rfl ?_
      refine zs_cV_iW (rest := [.int (((34 : Int32) * v1) + (m.1 10 v1.toNatClampNeg)), .ref (zz_a G 11)]) (k_X12_offOf hN _ _) dX12_laysPeriods_91 lv_X12_245 ok_X12_offOf (zz_rcv_o (shm_0 hN) rfl) (Nat.le_of_ble_eq_true rfl) rfl rfl (Nat.le_of_ble_eq_true rfl) (fun r1 m2 => ?_)
      refine zs_iastG dX12_laysPeriods_94 (shm_11 hN) (fun m3 => ?_)
      refine zs_aload_n dX12_laysPeriods_95 rfl 0 rfl ?_
      refine zs_getR fl_X12_45 dX12_laysPeriods_96 (shm_0 hN) rfl ?_
      refine zs_iload_n dX12_laysPeriods_99 rfl 1 rfl ?_
      refine zs_dup2_11 dX12_laysPeriods_100 rfl rfl ?_
      refine zs_ialdG dX12_laysPeriods_101 (shm_10 hN) ?_
      refine zs_iconst (v := (1 : Int32)) dX12_laysPeriods_102 ci_1 ?_
      refine zs_iadd dX12_laysPeriods_103 ?_
      refine zs_iastG dX12_laysPeriods_104 (shm_10 hN) (fun m4 => ?_)
      refine zs_iload_n dX12_laysPeriods_105 rfl 2 rfl ?_
      refine zs_aload_n dX12_laysPeriods_106 rfl 0 rfl ?_
      refine zs_getR fl_X12_13 dX12_laysPeriods_107 (shm_0 hN) rfl ?_
      refine zs_bipush (v := (48 : Int32)) dX12_laysPeriods_110 cb_48 ?_
      refine zs_iload_n dX12_laysPeriods_112 rfl 1 rfl ?_
      refine zs_iadd dX12_laysPeriods_113 ?_
      refine zs_ialdG dX12_laysPeriods_114 (shm_1 hN) ?_
      refine zs_iadd dX12_laysPeriods_115 ?_
      refine zs_letI (fun x5 => ?_)
      refine zs_istore_n [(3, .int x5), (0, .ref (zz_a G 0)), (1, .int v1)] dX12_laysPeriods_116 rfl (Nat.le_of_ble_eq_true rfl) rfl ?_
      refine zs_goto (tgt := 61) dX12_laysPeriods_117 (by decide) ?_
      refine zs_sub [1, 2, 0] rfl ?_
      exact ih _ _ _
def f_X12_laysPeriods_31   : Nat → Int32 → Int32 → zz_Mem → Option zz_Mem
  | 0, _, _, _ => none
  | n + 1, v1, v2, m =>
  zz_ix ((48 : Int32) + v1) 3531 <|
  if v2 ≤ (m.1 1 ((48 : Int32) + v1).toNatClampNeg) then (
  f_X12_laysPeriods_61 zz_fuel v1 v2 m)
  else (
  zz_ix ((48 : Int32) + v1) 3531 <|
  zz_letI (v2 - (m.1 1 ((48 : Int32) + v1).toNatClampNeg)) fun x1 =>
  f_X12_laysPeriods_31 n v1 x1 m)
theorem t_X12_laysPeriods_31 {l : Launch} {G : zz_G} (hN : 26 ≤ zz_N G)  : ∀ (n : Nat) (v1 : Int32) (v2 : Int32) (m : zz_Mem), zz_Sim zz_shM l G mX12_laysPeriods 4 zz_vV zz_mV (f_X12_laysPeriods_31 n v1 v2 m) 31 [(0, .ref (zz_a G 0)), (1, .int v1), (2, .int v2)] [] m := by
  intro n
  induction n with
  | zero => intro _ _ _; exact zs_none
  | succ n ih =>
    intro v1 v2 m
    rw [f_X12_laysPeriods_31]
    refine zs_iload_n dX12_laysPeriods_31 rfl 2 rfl ?_
    refine zs_aload_n dX12_laysPeriods_32 rfl 0 rfl ?_
    refine zs_getR fl_X12_13 dX12_laysPeriods_33 (shm_0 hN) rfl ?_
    refine zs_bipush (v := (48 : Int32)) dX12_laysPeriods_36 cb_48 ?_
    refine zs_iload_n dX12_laysPeriods_38 rfl 1 rfl ?_
    refine zs_iadd dX12_laysPeriods_39 ?_
    refine zs_ialdG dX12_laysPeriods_40 (shm_1 hN) ?_
    refine zs_icmp_le (tgt := 59) dX12_laysPeriods_41 (by decide) ?_ ?_
    · refine zs_iload_n dX12_laysPeriods_59 rfl 2 rfl ?_
      refine zs_istore_n [(3, .int v2), (0, .ref (zz_a G 0)), (1, .int v1), (2, .int v2)] dX12_laysPeriods_60 rfl (Nat.le_of_ble_eq_true rfl) rfl ?_
      refine zs_sub [1, 2, 0] rfl ?_
      exact t_X12_laysPeriods_61 hN zz_fuel _ _ _
    · refine zs_iload_n dX12_laysPeriods_44 rfl 2 rfl ?_
      refine zs_aload_n dX12_laysPeriods_45 rfl 0 rfl ?_
      refine zs_getR fl_X12_13 dX12_laysPeriods_46 (shm_0 hN) rfl ?_
      refine zs_bipush (v := (48 : Int32)) dX12_laysPeriods_49 cb_48 ?_
      refine zs_iload_n dX12_laysPeriods_51 rfl 1 rfl ?_
      refine zs_iadd dX12_laysPeriods_52 ?_
      refine zs_ialdG dX12_laysPeriods_53 (shm_1 hN) ?_
      refine zs_isub dX12_laysPeriods_54 ?_
      refine zs_letI (fun x1 => ?_)
      refine zs_istore_n [(2, .int x1), (0, .ref (zz_a G 0)), (1, .int v1)] dX12_laysPeriods_55 rfl (Nat.le_of_ble_eq_true rfl) rfl ?_
      refine zs_goto (tgt := 31) dX12_laysPeriods_56 (by decide) ?_
      refine zs_sub [1, 2, 0] rfl ?_
      exact ih _ _ _
def f_X12_laysPeriods  (p1 : Int32) (m : zz_Mem) : Option zz_Mem :=
  zz_ix p1 8 <| zz_letM (zz_setI m 10 p1.toNatClampNeg (0 : Int32)) fun m1 =>
  zz_ix ((24 : Int32) + p1) 3531 <|
  if (m1.1 1 ((24 : Int32) + p1).toNatClampNeg) = (2 : Int32) then (
  zz_ix ((40 : Int32) + p1) 3531 <|
  zz_letI (m1.1 1 ((40 : Int32) + p1).toNatClampNeg) fun x2 =>
  f_X12_laysPeriods_31 zz_fuel p1 x2 m1)
  else (
  some m1)
theorem k_X12_laysPeriods {l : Launch} {G : zz_G} (hN : 26 ≤ zz_N G) : ∀ (p1 : Int32) (m : zz_Mem), zz_Con zz_shM l G mX12_laysPeriods 4 [.ref (zz_a G 0), .int p1] zz_vV zz_mV (f_X12_laysPeriods p1 m) m := by
  intro p1 m
  refine zz_con (lv := [(0, .ref (zz_a G 0)), (1, .int p1)]) (by decide +kernel) (Nat.le_of_ble_eq_true rfl) rfl ?_
  unfold f_X12_laysPeriods
  refine zs_aload_n dX12_laysPeriods_0 rfl 0 rfl ?_
  refine zs_getR fl_X12_45 dX12_laysPeriods_1 (shm_0 hN) rfl ?_
  refine zs_iload_n dX12_laysPeriods_4 rfl 1 rfl ?_
  refine zs_iconst (v := (0 : Int32)) dX12_laysPeriods_5 ci_0 ?_
  refine zs_iastG dX12_laysPeriods_6 (shm_10 hN) (fun m1 => ?_)
  refine zs_aload_n dX12_laysPeriods_7 rfl 0 rfl ?_
  refine zs_getR fl_X12_13 dX12_laysPeriods_8 (shm_0 hN) rfl ?_
  refine zs_bipush (v := (24 : Int32)) dX12_laysPeriods_11 cb_24 ?_
  refine zs_iload_n dX12_laysPeriods_13 rfl 1 rfl ?_
  refine zs_iadd dX12_laysPeriods_14 ?_
  refine zs_ialdG dX12_laysPeriods_15 (shm_1 hN) ?_
  refine zs_iconst (v := (2 : Int32)) dX12_laysPeriods_16 ci_2 ?_
  refine zs_icmp_eq (tgt := 21) dX12_laysPeriods_17 (by decide) ?_ ?_
  · refine zs_aload_n dX12_laysPeriods_21 rfl 0 rfl ?_
    refine zs_getR fl_X12_13 dX12_laysPeriods_22 (shm_0 hN) rfl ?_
    refine zs_bipush (v := (40 : Int32)) dX12_laysPeriods_25 cb_40 ?_
    refine zs_iload_n dX12_laysPeriods_27 rfl 1 rfl ?_
    refine zs_iadd dX12_laysPeriods_28 ?_
    refine zs_ialdG dX12_laysPeriods_29 (shm_1 hN) ?_
    refine zs_letI (fun x2 => ?_)
    refine zs_istore_n [(2, .int x2), (0, .ref (zz_a G 0)), (1, .int p1)] dX12_laysPeriods_30 rfl (Nat.le_of_ble_eq_true rfl) rfl ?_
    refine zs_sub [1, 2, 0] rfl ?_
    exact t_X12_laysPeriods_31 hN zz_fuel _ _ _
  · exact zs_vret dX12_laysPeriods_20 rfl rfl rfl
/-! X12_laysDays: PillarDeskModel.laysDays()V -/
theorem dX12_laysDays_0 : decode cX12_laysDays 0 = .ok (.iconst 0, 1) := by decide +kernel
theorem dX12_laysDays_1 : decode cX12_laysDays 1 = .ok (.istore_n 1, 1) := by decide +kernel
theorem dX12_laysDays_2 : decode cX12_laysDays 2 = .ok (.iload_n 1, 1) := by decide +kernel
theorem dX12_laysDays_3 : decode cX12_laysDays 3 = .ok (.aload_n 0, 1) := by decide +kernel
theorem dX12_laysDays_4 : decode cX12_laysDays 4 = .ok (.getfield 13, 3) := by decide +kernel
theorem dX12_laysDays_7 : decode cX12_laysDays 7 = .ok (.iconst 4, 1) := by decide +kernel
theorem dX12_laysDays_8 : decode cX12_laysDays 8 = .ok (.iaload, 1) := by decide +kernel
theorem dX12_laysDays_9 : decode cX12_laysDays 9 = .ok (.if_icmp .ge 124, 3) := by decide +kernel
theorem dX12_laysDays_12 : decode cX12_laysDays 12 = .ok (.aload_n 0, 1) := by decide +kernel
theorem dX12_laysDays_13 : decode cX12_laysDays 13 = .ok (.getfield 36, 3) := by decide +kernel
theorem dX12_laysDays_16 : decode cX12_laysDays 16 = .ok (.iload_n 1, 1) := by decide +kernel
theorem dX12_laysDays_17 : decode cX12_laysDays 17 = .ok (.aload_n 0, 1) := by decide +kernel
theorem dX12_laysDays_18 : decode cX12_laysDays 18 = .ok (.getfield 13, 3) := by decide +kernel
theorem dX12_laysDays_21 : decode cX12_laysDays 21 = .ok (.bipush 24, 2) := by decide +kernel
theorem dX12_laysDays_23 : decode cX12_laysDays 23 = .ok (.iload_n 1, 1) := by decide +kernel
theorem dX12_laysDays_24 : decode cX12_laysDays 24 = .ok (.iadd, 1) := by decide +kernel
theorem dX12_laysDays_25 : decode cX12_laysDays 25 = .ok (.iaload, 1) := by decide +kernel
theorem dX12_laysDays_26 : decode cX12_laysDays 26 = .ok (.iconst 1, 1) := by decide +kernel
theorem dX12_laysDays_27 : decode cX12_laysDays 27 = .ok (.if_icmp .ne 19, 3) := by decide +kernel
theorem dX12_laysDays_30 : decode cX12_laysDays 30 = .ok (.aload_n 0, 1) := by decide +kernel
theorem dX12_laysDays_31 : decode cX12_laysDays 31 = .ok (.aload_n 0, 1) := by decide +kernel
theorem dX12_laysDays_32 : decode cX12_laysDays 32 = .ok (.getfield 13, 3) := by decide +kernel
theorem dX12_laysDays_35 : decode cX12_laysDays 35 = .ok (.bipush 32, 2) := by decide +kernel
theorem dX12_laysDays_37 : decode cX12_laysDays 37 = .ok (.iload_n 1, 1) := by decide +kernel
theorem dX12_laysDays_38 : decode cX12_laysDays 38 = .ok (.iadd, 1) := by decide +kernel
theorem dX12_laysDays_39 : decode cX12_laysDays 39 = .ok (.iaload, 1) := by decide +kernel
theorem dX12_laysDays_40 : decode cX12_laysDays 40 = .ok (.invokevirtual 245, 3) := by decide +kernel
theorem dX12_laysDays_43 : decode cX12_laysDays 43 = .ok (.goto 4, 3) := by decide +kernel
theorem dX12_laysDays_46 : decode cX12_laysDays 46 = .ok (.iconst 0, 1) := by decide +kernel
theorem dX12_laysDays_47 : decode cX12_laysDays 47 = .ok (.iastore, 1) := by decide +kernel
theorem dX12_laysDays_48 : decode cX12_laysDays 48 = .ok (.aload_n 0, 1) := by decide +kernel
theorem dX12_laysDays_49 : decode cX12_laysDays 49 = .ok (.getfield 39, 3) := by decide +kernel
theorem dX12_laysDays_52 : decode cX12_laysDays 52 = .ok (.iload_n 1, 1) := by decide +kernel
theorem dX12_laysDays_53 : decode cX12_laysDays 53 = .ok (.aload_n 0, 1) := by decide +kernel
theorem dX12_laysDays_54 : decode cX12_laysDays 54 = .ok (.aload_n 0, 1) := by decide +kernel
theorem dX12_laysDays_55 : decode cX12_laysDays 55 = .ok (.getfield 13, 3) := by decide +kernel
theorem dX12_laysDays_58 : decode cX12_laysDays 58 = .ok (.bipush 40, 2) := by decide +kernel
theorem dX12_laysDays_60 : decode cX12_laysDays 60 = .ok (.iload_n 1, 1) := by decide +kernel
theorem dX12_laysDays_61 : decode cX12_laysDays 61 = .ok (.iadd, 1) := by decide +kernel
theorem dX12_laysDays_62 : decode cX12_laysDays 62 = .ok (.iaload, 1) := by decide +kernel
theorem dX12_laysDays_63 : decode cX12_laysDays 63 = .ok (.invokevirtual 245, 3) := by decide +kernel
theorem dX12_laysDays_66 : decode cX12_laysDays 66 = .ok (.iastore, 1) := by decide +kernel
theorem dX12_laysDays_67 : decode cX12_laysDays 67 = .ok (.aload_n 0, 1) := by decide +kernel
theorem dX12_laysDays_68 : decode cX12_laysDays 68 = .ok (.iload_n 1, 1) := by decide +kernel
theorem dX12_laysDays_69 : decode cX12_laysDays 69 = .ok (.invokevirtual 248, 3) := by decide +kernel
theorem dX12_laysDays_72 : decode cX12_laysDays 72 = .ok (.iload_n 1, 1) := by decide +kernel
theorem dX12_laysDays_73 : decode cX12_laysDays 73 = .ok (.istore_n 2, 1) := by decide +kernel
theorem dX12_laysDays_74 : decode cX12_laysDays 74 = .ok (.iload_n 2, 1) := by decide +kernel
theorem dX12_laysDays_75 : decode cX12_laysDays 75 = .ok (.ifCond .le 45, 3) := by decide +kernel
theorem dX12_laysDays_78 : decode cX12_laysDays 78 = .ok (.aload_n 0, 1) := by decide +kernel
theorem dX12_laysDays_79 : decode cX12_laysDays 79 = .ok (.getfield 39, 3) := by decide +kernel
theorem dX12_laysDays_82 : decode cX12_laysDays 82 = .ok (.aload_n 0, 1) := by decide +kernel
theorem dX12_laysDays_83 : decode cX12_laysDays 83 = .ok (.getfield 42, 3) := by decide +kernel
theorem dX12_laysDays_86 : decode cX12_laysDays 86 = .ok (.iload_n 2, 1) := by decide +kernel
theorem dX12_laysDays_87 : decode cX12_laysDays 87 = .ok (.iconst 1, 1) := by decide +kernel
theorem dX12_laysDays_88 : decode cX12_laysDays 88 = .ok (.isub, 1) := by decide +kernel
theorem dX12_laysDays_89 : decode cX12_laysDays 89 = .ok (.iaload, 1) := by decide +kernel
theorem dX12_laysDays_90 : decode cX12_laysDays 90 = .ok (.iaload, 1) := by decide +kernel
theorem dX12_laysDays_91 : decode cX12_laysDays 91 = .ok (.aload_n 0, 1) := by decide +kernel
theorem dX12_laysDays_92 : decode cX12_laysDays 92 = .ok (.getfield 39, 3) := by decide +kernel
theorem dX12_laysDays_95 : decode cX12_laysDays 95 = .ok (.iload_n 1, 1) := by decide +kernel
theorem dX12_laysDays_96 : decode cX12_laysDays 96 = .ok (.iaload, 1) := by decide +kernel
theorem dX12_laysDays_97 : decode cX12_laysDays 97 = .ok (.if_icmp .le 23, 3) := by decide +kernel
theorem dX12_laysDays_100 : decode cX12_laysDays 100 = .ok (.aload_n 0, 1) := by decide +kernel
theorem dX12_laysDays_101 : decode cX12_laysDays 101 = .ok (.getfield 42, 3) := by decide +kernel
theorem dX12_laysDays_104 : decode cX12_laysDays 104 = .ok (.iload_n 2, 1) := by decide +kernel
theorem dX12_laysDays_105 : decode cX12_laysDays 105 = .ok (.aload_n 0, 1) := by decide +kernel
theorem dX12_laysDays_106 : decode cX12_laysDays 106 = .ok (.getfield 42, 3) := by decide +kernel
theorem dX12_laysDays_109 : decode cX12_laysDays 109 = .ok (.iload_n 2, 1) := by decide +kernel
theorem dX12_laysDays_110 : decode cX12_laysDays 110 = .ok (.iconst 1, 1) := by decide +kernel
theorem dX12_laysDays_111 : decode cX12_laysDays 111 = .ok (.isub, 1) := by decide +kernel
theorem dX12_laysDays_112 : decode cX12_laysDays 112 = .ok (.iaload, 1) := by decide +kernel
theorem dX12_laysDays_113 : decode cX12_laysDays 113 = .ok (.iastore, 1) := by decide +kernel
theorem dX12_laysDays_114 : decode cX12_laysDays 114 = .ok (.iinc 2 (-1), 3) := by decide +kernel
theorem dX12_laysDays_117 : decode cX12_laysDays 117 = .ok (.goto (-43), 3) := by decide +kernel
theorem dX12_laysDays_120 : decode cX12_laysDays 120 = .ok (.aload_n 0, 1) := by decide +kernel
theorem dX12_laysDays_121 : decode cX12_laysDays 121 = .ok (.getfield 42, 3) := by decide +kernel
theorem dX12_laysDays_124 : decode cX12_laysDays 124 = .ok (.iload_n 2, 1) := by decide +kernel
theorem dX12_laysDays_125 : decode cX12_laysDays 125 = .ok (.iload_n 1, 1) := by decide +kernel
theorem dX12_laysDays_126 : decode cX12_laysDays 126 = .ok (.iastore, 1) := by decide +kernel
theorem dX12_laysDays_127 : decode cX12_laysDays 127 = .ok (.iinc 1 1, 3) := by decide +kernel
theorem dX12_laysDays_130 : decode cX12_laysDays 130 = .ok (.goto (-128), 3) := by decide +kernel
theorem dX12_laysDays_133 : decode cX12_laysDays 133 = .ok (.return_, 1) := by decide +kernel
def f_X12_laysDays_120  (k2 : Int32 → zz_Mem → Option zz_Mem) (v1 : Int32) (v2 : Int32) (m : zz_Mem) : Option zz_Mem :=
  zz_ix v2 8 <| zz_letM (zz_setI m 9 v2.toNatClampNeg v1) fun m1 =>
  zz_letI (v1 + (1 : Int32)) fun x2 =>
  k2 x2 m1
theorem t_X12_laysDays_120 {l : Launch} {G : zz_G} (hN : 26 ≤ zz_N G) {k2 : Int32 → zz_Mem → Option zz_Mem} (hk2 : ∀ (v1 : Int32) (m : zz_Mem), zz_Sim zz_shM l G mX12_laysDays 5 zz_vV zz_mV (k2 v1 m) 2 [(0, .ref (zz_a G 0)), (1, .int v1)] [] m) : ∀ (v1 : Int32) (v2 : Int32) (m : zz_Mem), zz_Sim zz_shM l G mX12_laysDays 5 zz_vV zz_mV (f_X12_laysDays_120 k2 v1 v2 m) 120 [(0, .ref (zz_a G 0)), (1, .int v1), (2, .int v2)] [] m := by
  intro v1 v2 m
  unfold f_X12_laysDays_120
  refine zs_aload_n dX12_laysDays_120 rfl 0 rfl ?_
  refine zs_getR fl_X12_42 dX12_laysDays_121 (shm_0 hN) rfl ?_
  refine zs_iload_n dX12_laysDays_124 rfl 2 rfl ?_
  refine zs_iload_n dX12_laysDays_125 rfl 1 rfl ?_
  refine zs_iastG dX12_laysDays_126 (shm_9 hN) (fun m1 => ?_)
  refine zs_iinc (fun y => [(1, .int y), (0, .ref (zz_a G 0)), (2, .int v2)]) dX12_laysDays_127 1 rfl ci_1 (Nat.le_of_ble_eq_true rfl) (fun _ => rfl) (fun x2 => ?_)
  refine zs_goto (tgt := 2) dX12_laysDays_130 (by decide) ?_
  refine zs_sub [1, 0] rfl ?_
  exact hk2 _ _
def f_X12_laysDays_74  (k2 : Int32 → zz_Mem → Option zz_Mem) : Nat → Int32 → Int32 → zz_Mem → Option zz_Mem
  | 0, _, _, _ => none
  | n + 1, v1, v2, m =>
  if v2 ≤ 0 then (
  f_X12_laysDays_120 k2 v1 v2 m)
  else (
  zz_ix (v2 - (1 : Int32)) 8 <|
  zz_ix (m.1 9 (v2 - (1 : Int32)).toNatClampNeg) 8 <|
  zz_ix v1 8 <|
  if (m.1 8 (m.1 9 (v2 - (1 : Int32)).toNatClampNeg).toNatClampNeg) ≤ (m.1 8 v1.toNatClampNeg) then (
  f_X12_laysDays_120 k2 v1 v2 m)
  else (
  zz_ix (v2 - (1 : Int32)) 8 <|
  zz_ix v2 8 <| zz_letM (zz_setI m 9 v2.toNatClampNeg (m.1 9 (v2 - (1 : Int32)).toNatClampNeg)) fun m1 =>
  zz_letI (v2 + (-1 : Int32)) fun x2 =>
  f_X12_laysDays_74 k2 n v1 x2 m1))
theorem t_X12_laysDays_74 {l : Launch} {G : zz_G} (hN : 26 ≤ zz_N G) {k2 : Int32 → zz_Mem → Option zz_Mem} (hk2 : ∀ (v1 : Int32) (m : zz_Mem), zz_Sim zz_shM l G mX12_laysDays 5 zz_vV zz_mV (k2 v1 m) 2 [(0, .ref (zz_a G 0)), (1, .int v1)] [] m) : ∀ (n : Nat) (v1 : Int32) (v2 : Int32) (m : zz_Mem), zz_Sim zz_shM l G mX12_laysDays 5 zz_vV zz_mV (f_X12_laysDays_74 k2 n v1 v2 m) 74 [(0, .ref (zz_a G 0)), (1, .int v1), (2, .int v2)] [] m := by
  intro n
  induction n with
  | zero => intro _ _ _; exact zs_none
  | succ n ih =>
    intro v1 v2 m
    rw [f_X12_laysDays_74]
    refine zs_iload_n dX12_laysDays_74 rfl 2 rfl ?_
    refine zs_if_le (tgt := 120) dX12_laysDays_75 (by decide) ?_ ?_
    · exact t_X12_laysDays_120 hN hk2 _ _ _
    · refine zs_aload_n dX12_laysDays_78 rfl 0 rfl ?_
      refine zs_getR fl_X12_39 dX12_laysDays_79 (shm_0 hN) rfl ?_
      refine zs_aload_n dX12_laysDays_82 rfl 0 rfl ?_
      refine zs_getR fl_X12_42 dX12_laysDays_83 (shm_0 hN) rfl ?_
      refine zs_iload_n dX12_laysDays_86 rfl 2 rfl ?_
      refine zs_iconst (v := (1 : Int32)) dX12_laysDays_87 ci_1 ?_
      refine zs_isub dX12_laysDays_88 ?_
      refine zs_ialdG dX12_laysDays_89 (shm_9 hN) ?_
      refine zs_ialdG dX12_laysDays_90 (shm_8 hN) ?_
      refine zs_aload_n dX12_laysDays_91 rfl 0 rfl ?_
      refine zs_getR fl_X12_39 dX12_laysDays_92 (shm_0 hN) rfl ?_
      refine zs_iload_n dX12_laysDays_95 rfl 1 rfl ?_
      refine zs_ialdG dX12_laysDays_96 (shm_8 hN) ?_
      refine zs_icmp_le (tgt := 120) dX12_laysDays_97 (by decide) ?_ ?_
      · exact t_X12_laysDays_120 hN hk2 _ _ _
      · refine zs_aload_n dX12_laysDays_100 rfl 0 rfl ?_
        refine zs_getR fl_X12_42 dX12_laysDays_101 (shm_0 hN) rfl ?_
        refine zs_iload_n dX12_laysDays_104 rfl 2 rfl ?_
        refine zs_aload_n dX12_laysDays_105 rfl 0 rfl ?_
        refine zs_getR fl_X12_42 dX12_laysDays_106 (shm_0 hN) rfl ?_
        refine zs_iload_n dX12_laysDays_109 rfl 2 rfl ?_
        refine zs_iconst (v := (1 : Int32)) dX12_laysDays_110 ci_1 ?_
        refine zs_isub dX12_laysDays_111 ?_
        refine zs_ialdG dX12_laysDays_112 (shm_9 hN) ?_
        refine zs_iastG dX12_laysDays_113 (shm_9 hN) (fun m1 => ?_)
        refine zs_iinc (fun y => [(2, .int y), (0, .ref (zz_a G 0)), (1, .int v1)]) dX12_laysDays_114 2 rfl ci_m1 (Nat.le_of_ble_eq_true rfl) (fun _ => rfl) (fun x2 => ?_)
        refine zs_goto (tgt := 74) dX12_laysDays_117 (by decide) ?_
        refine zs_sub [1, 2, 0] rfl ?_
        exact ih _ _ _
def f_X12_laysDays_47  (k2 : Int32 → zz_Mem → Option zz_Mem) (v1 : Int32) (s0 : Int32) (s1 : Int32) (m : zz_Mem) : Option zz_Mem :=
  zz_ix s1 8 <| zz_letM (zz_setI m 7 s1.toNatClampNeg s0) fun m1 =>
  zz_ix ((40 : Int32) + v1) 3531 <|
  zz_bnd (f_X12_offOf (m1.1 1 ((40 : Int32) + v1).toNatClampNeg) m1) fun r2 m3 =>
  zz_ix v1 8 <| zz_letM (zz_setI m3 8 v1.toNatClampNeg r2) fun m4 =>
  zz_bndR (f_X12_laysPeriods v1 m4) fun m5 =>
  f_X12_laysDays_74 k2 zz_fuel v1 v1 m5
theorem t_X12_laysDays_47 {l : Launch} {G : zz_G} (hN : 26 ≤ zz_N G) {k2 : Int32 → zz_Mem → Option zz_Mem} (hk2 : ∀ (v1 : Int32) (m : zz_Mem), zz_Sim zz_shM l G mX12_laysDays 5 zz_vV zz_mV (k2 v1 m) 2 [(0, .ref (zz_a G 0)), (1, .int v1)] [] m) : ∀ (v1 : Int32) (s0 : Int32) (s1 : Int32) (m : zz_Mem), zz_Sim zz_shM l G mX12_laysDays 5 zz_vV zz_mV (f_X12_laysDays_47 k2 v1 s0 s1 m) 47 [(0, .ref (zz_a G 0)), (1, .int v1)] [.int s0, .int s1, .ref (zz_a G 7)] m := by
  intro v1 s0 s1 m
  unfold f_X12_laysDays_47
  refine zs_iastG dX12_laysDays_47 (shm_7 hN) (fun m1 => ?_)
  refine zs_aload_n dX12_laysDays_48 rfl 0 rfl ?_
  refine zs_getR fl_X12_39 dX12_laysDays_49 (shm_0 hN) rfl ?_
  refine zs_iload_n dX12_laysDays_52 rfl 1 rfl ?_
  refine zs_aload_n dX12_laysDays_53 rfl 0 rfl ?_
  refine zs_aload_n dX12_laysDays_54 rfl 0 rfl ?_
  refine zs_getR fl_X12_13 dX12_laysDays_55 (shm_0 hN) rfl ?_
  refine zs_bipush (v := (40 : Int32)) dX12_laysDays_58 cb_40 ?_
  refine zs_iload_n dX12_laysDays_60 rfl 1 rfl ?_
  refine zs_iadd dX12_laysDays_61 ?_
  refine zs_ialdG dX12_laysDays_62 (shm_1 hN) ?_
  refine zs_cV_iW (rest := [.int v1, .ref (zz_a G 8)]) (k_X12_offOf hN _ _) dX12_laysDays_63 lv_X12_245 ok_X12_offOf (zz_rcv_o (shm_0 hN) rfl) (Nat.le_of_ble_eq_true rfl) rfl rfl (Nat.le_of_ble_eq_true rfl) (fun r2 m3 => ?_)
  refine zs_iastG dX12_laysDays_66 (shm_8 hN) (fun m4 => ?_)
  refine zs_aload_n dX12_laysDays_67 rfl 0 rfl ?_
  refine zs_iload_n dX12_laysDays_68 rfl 1 rfl ?_
  refine zs_cV_vW (rest := []) (k_X12_laysPeriods hN _ _) dX12_laysDays_69 lv_X12_248 ok_X12_laysPeriods (zz_rcv_o (shm_0 hN) rfl) (Nat.le_of_ble_eq_true rfl) rfl rfl (Nat.le_of_ble_eq_true rfl) (fun m5 => ?_)
  refine zs_iload_n dX12_laysDays_72 rfl 1 rfl ?_
  refine zs_istore_n [(2, .int v1), (0, .ref (zz_a G 0)), (1, .int v1)] dX12_laysDays_73 rfl (Nat.le_of_ble_eq_true rfl) rfl ?_
  refine zs_sub [1, 2, 0] rfl ?_
  exact t_X12_laysDays_74 hN hk2 zz_fuel _ _ _
def f_X12_laysDays_2   : Nat → Int32 → zz_Mem → Option zz_Mem
  | 0, _, _ => none
  | n + 1, v1, m =>
  if (m.1 1 4) ≤ v1 then (
  some m)
  else (
  zz_ix ((24 : Int32) + v1) 3531 <|
  if (m.1 1 ((24 : Int32) + v1).toNatClampNeg) = (1 : Int32) then (
  zz_ix ((32 : Int32) + v1) 3531 <|
  zz_bnd (f_X12_offOf (m.1 1 ((32 : Int32) + v1).toNatClampNeg) m) fun r1 m2 =>
  f_X12_laysDays_47 (f_X12_laysDays_2 n) v1 r1 v1 m2)
  else (
  f_X12_laysDays_47 (f_X12_laysDays_2 n) v1 (0 : Int32) v1 m))
theorem t_X12_laysDays_2 {l : Launch} {G : zz_G} (hN : 26 ≤ zz_N G)  : ∀ (n : Nat) (v1 : Int32) (m : zz_Mem), zz_Sim zz_shM l G mX12_laysDays 5 zz_vV zz_mV (f_X12_laysDays_2 n v1 m) 2 [(0, .ref (zz_a G 0)), (1, .int v1)] [] m := by
  intro n
  induction n with
  | zero => intro _ _; exact zs_none
  | succ n ih =>
    intro v1 m
    rw [f_X12_laysDays_2]
    refine zs_iload_n dX12_laysDays_2 rfl 1 rfl ?_
    refine zs_aload_n dX12_laysDays_3 rfl 0 rfl ?_
    refine zs_getR fl_X12_13 dX12_laysDays_4 (shm_0 hN) rfl ?_
    refine zs_iconst (v := (4 : Int32)) dX12_laysDays_7 ci_4 ?_
    refine zs_ialdC dX12_laysDays_8 (shm_1 hN) vin_4_3531 clp_4 ?_
    refine zs_icmp_ge (tgt := 133) dX12_laysDays_9 (by decide) ?_ ?_
    · exact zs_vret dX12_laysDays_133 rfl rfl rfl
    · refine zs_aload_n dX12_laysDays_12 rfl 0 rfl ?_
      refine zs_getR fl_X12_36 dX12_laysDays_13 (shm_0 hN) rfl ?_
      refine zs_iload_n dX12_laysDays_16 rfl 1 rfl ?_
      refine zs_aload_n dX12_laysDays_17 rfl 0 rfl ?_
      refine zs_getR fl_X12_13 dX12_laysDays_18 (shm_0 hN) rfl ?_
      refine zs_bipush (v := (24 : Int32)) dX12_laysDays_21 cb_24 ?_
      refine zs_iload_n dX12_laysDays_23 rfl 1 rfl ?_
      refine zs_iadd dX12_laysDays_24 ?_
      refine zs_ialdG dX12_laysDays_25 (shm_1 hN) ?_
      refine zs_iconst (v := (1 : Int32)) dX12_laysDays_26 ci_1 ?_
      refine zs_icmp_ne (tgt := 46) dX12_laysDays_27 (by decide) ?_ ?_
      · refine zs_iconst (v := (0 : Int32)) dX12_laysDays_46 ci_0 ?_
        exact t_X12_laysDays_47 hN ih _ _ _ _
      · refine zs_aload_n dX12_laysDays_30 rfl 0 rfl ?_
        refine zs_aload_n dX12_laysDays_31 rfl 0 rfl ?_
        refine zs_getR fl_X12_13 dX12_laysDays_32 (shm_0 hN) rfl ?_
        refine zs_bipush (v := (32 : Int32)) dX12_laysDays_35 cb_32 ?_
        refine zs_iload_n dX12_laysDays_37 rfl 1 rfl ?_
        refine zs_iadd dX12_laysDays_38 ?_
        refine zs_ialdG dX12_laysDays_39 (shm_1 hN) ?_
        refine zs_cV_iW (rest := [.int v1, .ref (zz_a G 7)]) (k_X12_offOf hN _ _) dX12_laysDays_40 lv_X12_245 ok_X12_offOf (zz_rcv_o (shm_0 hN) rfl) (Nat.le_of_ble_eq_true rfl) rfl rfl (Nat.le_of_ble_eq_true rfl) (fun r1 m2 => ?_)
        refine zs_goto (tgt := 47) dX12_laysDays_43 (by decide) ?_
        exact t_X12_laysDays_47 hN ih _ _ _ _
def f_X12_laysDays   (m : zz_Mem) : Option zz_Mem :=
  f_X12_laysDays_2 zz_fuel (0 : Int32) m
theorem k_X12_laysDays {l : Launch} {G : zz_G} (hN : 26 ≤ zz_N G) : ∀ (m : zz_Mem), zz_Con zz_shM l G mX12_laysDays 5 [.ref (zz_a G 0)] zz_vV zz_mV (f_X12_laysDays m) m := by
  intro m
  refine zz_con (lv := [(0, .ref (zz_a G 0))]) (by decide +kernel) (Nat.le_of_ble_eq_true rfl) rfl ?_
  unfold f_X12_laysDays
  refine zs_iconst (v := (0 : Int32)) dX12_laysDays_0 ci_0 ?_
  refine zs_istore_n [(1, .int (0 : Int32)), (0, .ref (zz_a G 0))] dX12_laysDays_1 rfl (Nat.le_of_ble_eq_true rfl) rfl ?_
  refine zs_sub [1, 0] rfl ?_
  exact t_X12_laysDays_2 hN zz_fuel _ _
/-! X12_desk: PillarDeskModel.desk(I)I -/
theorem dX12_desk_0 : decode cX12_desk 0 = .ok (.aload_n 0, 1) := by decide +kernel
theorem dX12_desk_1 : decode cX12_desk 1 = .ok (.iconst 0, 1) := by decide +kernel
theorem dX12_desk_2 : decode cX12_desk 2 = .ok (.putfield 1, 3) := by decide +kernel
theorem dX12_desk_5 : decode cX12_desk 5 = .ok (.iload_n 1, 1) := by decide +kernel
theorem dX12_desk_6 : decode cX12_desk 6 = .ok (.i2l, 1) := by decide +kernel
theorem dX12_desk_7 : decode cX12_desk 7 = .ok (.lconst 0, 1) := by decide +kernel
theorem dX12_desk_8 : decode cX12_desk 8 = .ok (.aload_n 0, 1) := by decide +kernel
theorem dX12_desk_9 : decode cX12_desk 9 = .ok (.getfield 101, 3) := by decide +kernel
theorem dX12_desk_12 : decode cX12_desk 12 = .ok (.i2l, 1) := by decide +kernel
theorem dX12_desk_13 : decode cX12_desk 13 = .ok (.invokestatic 163, 3) := by decide +kernel
theorem dX12_desk_16 : decode cX12_desk 16 = .ok (.ifCond .ne 6, 3) := by decide +kernel
theorem dX12_desk_19 : decode cX12_desk 19 = .ok (.bipush (-3), 2) := by decide +kernel
theorem dX12_desk_21 : decode cX12_desk 21 = .ok (.ireturn, 1) := by decide +kernel
theorem dX12_desk_22 : decode cX12_desk 22 = .ok (.aload_n 0, 1) := by decide +kernel
theorem dX12_desk_23 : decode cX12_desk 23 = .ok (.iload_n 1, 1) := by decide +kernel
theorem dX12_desk_24 : decode cX12_desk 24 = .ok (.putfield 104, 3) := by decide +kernel
theorem dX12_desk_27 : decode cX12_desk 27 = .ok (.aload_n 0, 1) := by decide +kernel
theorem dX12_desk_28 : decode cX12_desk 28 = .ok (.iconst 0, 1) := by decide +kernel
theorem dX12_desk_29 : decode cX12_desk 29 = .ok (.putfield 101, 3) := by decide +kernel
theorem dX12_desk_32 : decode cX12_desk 32 = .ok (.aload_n 0, 1) := by decide +kernel
theorem dX12_desk_33 : decode cX12_desk 33 = .ok (.iconst 0, 1) := by decide +kernel
theorem dX12_desk_34 : decode cX12_desk 34 = .ok (.putfield 122, 3) := by decide +kernel
theorem dX12_desk_37 : decode cX12_desk 37 = .ok (.aload_n 0, 1) := by decide +kernel
theorem dX12_desk_38 : decode cX12_desk 38 = .ok (.iconst 0, 1) := by decide +kernel
theorem dX12_desk_39 : decode cX12_desk 39 = .ok (.putfield 147, 3) := by decide +kernel
theorem dX12_desk_42 : decode cX12_desk 42 = .ok (.aload_n 0, 1) := by decide +kernel
theorem dX12_desk_43 : decode cX12_desk 43 = .ok (.getfield 24, 3) := by decide +kernel
theorem dX12_desk_46 : decode cX12_desk 46 = .ok (.invokestatic 94, 3) := by decide +kernel
theorem dX12_desk_49 : decode cX12_desk 49 = .ok (.aload_n 0, 1) := by decide +kernel
theorem dX12_desk_50 : decode cX12_desk 50 = .ok (.invokevirtual 156, 3) := by decide +kernel
theorem dX12_desk_53 : decode cX12_desk 53 = .ok (.aload_n 0, 1) := by decide +kernel
theorem dX12_desk_54 : decode cX12_desk 54 = .ok (.iconst 0, 1) := by decide +kernel
theorem dX12_desk_55 : decode cX12_desk 55 = .ok (.invokevirtual 182, 3) := by decide +kernel
theorem dX12_desk_58 : decode cX12_desk 58 = .ok (.ifCond .ne 8, 3) := by decide +kernel
theorem dX12_desk_61 : decode cX12_desk 61 = .ok (.aload_n 0, 1) := by decide +kernel
theorem dX12_desk_62 : decode cX12_desk 62 = .ok (.iconst 2, 1) := by decide +kernel
theorem dX12_desk_63 : decode cX12_desk 63 = .ok (.invokevirtual 159, 3) := by decide +kernel
theorem dX12_desk_66 : decode cX12_desk 66 = .ok (.aload_n 0, 1) := by decide +kernel
theorem dX12_desk_67 : decode cX12_desk 67 = .ok (.getfield 24, 3) := by decide +kernel
theorem dX12_desk_70 : decode cX12_desk 70 = .ok (.iconst 1, 1) := by decide +kernel
theorem dX12_desk_71 : decode cX12_desk 71 = .ok (.aload_n 0, 1) := by decide +kernel
theorem dX12_desk_72 : decode cX12_desk 72 = .ok (.iconst 1, 1) := by decide +kernel
theorem dX12_desk_73 : decode cX12_desk 73 = .ok (.iconst 0, 1) := by decide +kernel
theorem dX12_desk_74 : decode cX12_desk 74 = .ok (.bipush 6, 2) := by decide +kernel
theorem dX12_desk_76 : decode cX12_desk 76 = .ok (.invokevirtual 207, 3) := by decide +kernel
theorem dX12_desk_79 : decode cX12_desk 79 = .ok (.iastore, 1) := by decide +kernel
theorem dX12_desk_80 : decode cX12_desk 80 = .ok (.aload_n 0, 1) := by decide +kernel
theorem dX12_desk_81 : decode cX12_desk 81 = .ok (.getfield 24, 3) := by decide +kernel
theorem dX12_desk_84 : decode cX12_desk 84 = .ok (.iconst 2, 1) := by decide +kernel
theorem dX12_desk_85 : decode cX12_desk 85 = .ok (.aload_n 0, 1) := by decide +kernel
theorem dX12_desk_86 : decode cX12_desk 86 = .ok (.iconst 2, 1) := by decide +kernel
theorem dX12_desk_87 : decode cX12_desk 87 = .ok (.iconst 0, 1) := by decide +kernel
theorem dX12_desk_88 : decode cX12_desk 88 = .ok (.iconst 1, 1) := by decide +kernel
theorem dX12_desk_89 : decode cX12_desk 89 = .ok (.invokevirtual 207, 3) := by decide +kernel
theorem dX12_desk_92 : decode cX12_desk 92 = .ok (.iastore, 1) := by decide +kernel
theorem dX12_desk_93 : decode cX12_desk 93 = .ok (.aload_n 0, 1) := by decide +kernel
theorem dX12_desk_94 : decode cX12_desk 94 = .ok (.getfield 24, 3) := by decide +kernel
theorem dX12_desk_97 : decode cX12_desk 97 = .ok (.bipush 74, 2) := by decide +kernel
theorem dX12_desk_99 : decode cX12_desk 99 = .ok (.aload_n 0, 1) := by decide +kernel
theorem dX12_desk_100 : decode cX12_desk 100 = .ok (.iconst 3, 1) := by decide +kernel
theorem dX12_desk_101 : decode cX12_desk 101 = .ok (.iconst 0, 1) := by decide +kernel
theorem dX12_desk_102 : decode cX12_desk 102 = .ok (.bipush 9, 2) := by decide +kernel
theorem dX12_desk_104 : decode cX12_desk 104 = .ok (.invokevirtual 207, 3) := by decide +kernel
theorem dX12_desk_107 : decode cX12_desk 107 = .ok (.iastore, 1) := by decide +kernel
theorem dX12_desk_108 : decode cX12_desk 108 = .ok (.aload_n 0, 1) := by decide +kernel
theorem dX12_desk_109 : decode cX12_desk 109 = .ok (.invokevirtual 223, 3) := by decide +kernel
theorem dX12_desk_112 : decode cX12_desk 112 = .ok (.aload_n 0, 1) := by decide +kernel
theorem dX12_desk_113 : decode cX12_desk 113 = .ok (.getfield 147, 3) := by decide +kernel
theorem dX12_desk_116 : decode cX12_desk 116 = .ok (.ifCond .ne 23, 3) := by decide +kernel
theorem dX12_desk_119 : decode cX12_desk 119 = .ok (.aload_n 0, 1) := by decide +kernel
theorem dX12_desk_120 : decode cX12_desk 120 = .ok (.getfield 129, 3) := by decide +kernel
theorem dX12_desk_123 : decode cX12_desk 123 = .ok (.bipush 30, 2) := by decide +kernel
theorem dX12_desk_125 : decode cX12_desk 125 = .ok (.if_icmp .eq 14, 3) := by decide +kernel
theorem dX12_desk_128 : decode cX12_desk 128 = .ok (.aload_n 0, 1) := by decide +kernel
theorem dX12_desk_129 : decode cX12_desk 129 = .ok (.invokevirtual 226, 3) := by decide +kernel
theorem dX12_desk_132 : decode cX12_desk 132 = .ok (.aload_n 0, 1) := by decide +kernel
theorem dX12_desk_133 : decode cX12_desk 133 = .ok (.invokevirtual 223, 3) := by decide +kernel
theorem dX12_desk_136 : decode cX12_desk 136 = .ok (.goto (-24), 3) := by decide +kernel
theorem dX12_desk_139 : decode cX12_desk 139 = .ok (.aload_n 0, 1) := by decide +kernel
theorem dX12_desk_140 : decode cX12_desk 140 = .ok (.aload_n 0, 1) := by decide +kernel
theorem dX12_desk_141 : decode cX12_desk 141 = .ok (.getfield 147, 3) := by decide +kernel
theorem dX12_desk_144 : decode cX12_desk 144 = .ok (.putfield 229, 3) := by decide +kernel
theorem dX12_desk_147 : decode cX12_desk 147 = .ok (.aload_n 0, 1) := by decide +kernel
theorem dX12_desk_148 : decode cX12_desk 148 = .ok (.aload_n 0, 1) := by decide +kernel
theorem dX12_desk_149 : decode cX12_desk 149 = .ok (.getfield 147, 3) := by decide +kernel
theorem dX12_desk_152 : decode cX12_desk 152 = .ok (.ifCond .ne 7, 3) := by decide +kernel
theorem dX12_desk_155 : decode cX12_desk 155 = .ok (.iconst (-1), 1) := by decide +kernel
theorem dX12_desk_156 : decode cX12_desk 156 = .ok (.goto 7, 3) := by decide +kernel
theorem dX12_desk_159 : decode cX12_desk 159 = .ok (.aload_n 0, 1) := by decide +kernel
theorem dX12_desk_160 : decode cX12_desk 160 = .ok (.getfield 150, 3) := by decide +kernel
theorem dX12_desk_163 : decode cX12_desk 163 = .ok (.putfield 27, 3) := by decide +kernel
theorem dX12_desk_166 : decode cX12_desk 166 = .ok (.aload_n 0, 1) := by decide +kernel
theorem dX12_desk_167 : decode cX12_desk 167 = .ok (.getfield 147, 3) := by decide +kernel
theorem dX12_desk_170 : decode cX12_desk 170 = .ok (.ifCond .eq 11, 3) := by decide +kernel
theorem dX12_desk_173 : decode cX12_desk 173 = .ok (.bipush (-30), 2) := by decide +kernel
theorem dX12_desk_175 : decode cX12_desk 175 = .ok (.aload_n 0, 1) := by decide +kernel
theorem dX12_desk_176 : decode cX12_desk 176 = .ok (.getfield 147, 3) := by decide +kernel
theorem dX12_desk_179 : decode cX12_desk 179 = .ok (.isub, 1) := by decide +kernel
theorem dX12_desk_180 : decode cX12_desk 180 = .ok (.ireturn, 1) := by decide +kernel
theorem dX12_desk_181 : decode cX12_desk 181 = .ok (.iconst 0, 1) := by decide +kernel
theorem dX12_desk_182 : decode cX12_desk 182 = .ok (.istore_n 2, 1) := by decide +kernel
theorem dX12_desk_183 : decode cX12_desk 183 = .ok (.iload_n 2, 1) := by decide +kernel
theorem dX12_desk_184 : decode cX12_desk 184 = .ok (.sipush 1177, 3) := by decide +kernel
theorem dX12_desk_187 : decode cX12_desk 187 = .ok (.if_icmp .ge 21, 3) := by decide +kernel
theorem dX12_desk_190 : decode cX12_desk 190 = .ok (.aload_n 0, 1) := by decide +kernel
theorem dX12_desk_191 : decode cX12_desk 191 = .ok (.getfield 13, 3) := by decide +kernel
theorem dX12_desk_194 : decode cX12_desk 194 = .ok (.iload_n 2, 1) := by decide +kernel
theorem dX12_desk_195 : decode cX12_desk 195 = .ok (.aload_n 0, 1) := by decide +kernel
theorem dX12_desk_196 : decode cX12_desk 196 = .ok (.getfield 24, 3) := by decide +kernel
theorem dX12_desk_199 : decode cX12_desk 199 = .ok (.iload_n 2, 1) := by decide +kernel
theorem dX12_desk_200 : decode cX12_desk 200 = .ok (.iaload, 1) := by decide +kernel
theorem dX12_desk_201 : decode cX12_desk 201 = .ok (.iastore, 1) := by decide +kernel
theorem dX12_desk_202 : decode cX12_desk 202 = .ok (.iinc 2 1, 3) := by decide +kernel
theorem dX12_desk_205 : decode cX12_desk 205 = .ok (.goto (-22), 3) := by decide +kernel
theorem dX12_desk_208 : decode cX12_desk 208 = .ok (.aload_n 0, 1) := by decide +kernel
theorem dX12_desk_209 : decode cX12_desk 209 = .ok (.invokevirtual 98, 3) := by decide +kernel
theorem dX12_desk_212 : decode cX12_desk 212 = .ok (.aload_n 0, 1) := by decide +kernel
theorem dX12_desk_213 : decode cX12_desk 213 = .ok (.getfield 13, 3) := by decide +kernel
theorem dX12_desk_216 : decode cX12_desk 216 = .ok (.iconst 0, 1) := by decide +kernel
theorem dX12_desk_217 : decode cX12_desk 217 = .ok (.iaload, 1) := by decide +kernel
theorem dX12_desk_218 : decode cX12_desk 218 = .ok (.ireturn, 1) := by decide +kernel
def f_X12_desk_208   (m : zz_Mem) : Option (Int32 × zz_Mem) :=
  zz_bndR (f_X12_laysDays m) fun m1 =>
  some (m1.1 1 0, m1)
theorem t_X12_desk_208 {l : Launch} {G : zz_G} (hN : 26 ≤ zz_N G)  : ∀ (m : zz_Mem), zz_Sim zz_shM l G mX12_desk 70 zz_vI zz_m2 (f_X12_desk_208 m) 208 [(0, .ref (zz_a G 0))] [] m := by
  intro m
  unfold f_X12_desk_208
  refine zs_aload_n dX12_desk_208 rfl 0 rfl ?_
  refine zs_cV_vW (rest := []) (k_X12_laysDays hN  _) dX12_desk_209 lv_X12_98 ok_X12_laysDays (zz_rcv_o (shm_0 hN) rfl) (Nat.le_of_ble_eq_true rfl) rfl rfl (Nat.le_of_ble_eq_true rfl) (fun m1 => ?_)
  refine zs_aload_n dX12_desk_212 rfl 0 rfl ?_
  refine zs_getR fl_X12_13 dX12_desk_213 (shm_0 hN) rfl ?_
  refine zs_iconst (v := (0 : Int32)) dX12_desk_216 ci_0 ?_
  refine zs_ialdC dX12_desk_217 (shm_1 hN) vin_0_3531 clp_0 ?_
  exact zs_iret dX12_desk_218 rfl rfl rfl
def f_X12_desk_183   : Nat → Int32 → zz_Mem → Option (Int32 × zz_Mem)
  | 0, _, _ => none
  | n + 1, v2, m =>
  if (1177 : Int32) ≤ v2 then (
  f_X12_desk_208 m)
  else (
  zz_ix v2 1177 <|
  zz_ix v2 3531 <| zz_letM (zz_setI m 1 v2.toNatClampNeg (m.1 4 v2.toNatClampNeg)) fun m1 =>
  zz_letI (v2 + (1 : Int32)) fun x2 =>
  f_X12_desk_183 n x2 m1)
theorem t_X12_desk_183 {l : Launch} {G : zz_G} (hN : 26 ≤ zz_N G)  : ∀ (n : Nat) (v2 : Int32) (m : zz_Mem), zz_Sim zz_shM l G mX12_desk 70 zz_vI zz_m2 (f_X12_desk_183 n v2 m) 183 [(0, .ref (zz_a G 0)), (2, .int v2)] [] m := by
  intro n
  induction n with
  | zero => intro _ _; exact zs_none
  | succ n ih =>
    intro v2 m
    rw [f_X12_desk_183]
    refine zs_iload_n dX12_desk_183 rfl 1 rfl ?_
    refine zs_sipush (v := (1177 : Int32)) dX12_desk_184 cs_1177 ?_
    refine zs_icmp_ge (tgt := 208) dX12_desk_187 (by decide) ?_ ?_
    · refine zs_sub [0] rfl ?_
      exact t_X12_desk_208 hN _
    · refine zs_aload_n dX12_desk_190 rfl 0 rfl ?_
      refine zs_getR fl_X12_13 dX12_desk_191 (shm_0 hN) rfl ?_
      refine zs_iload_n dX12_desk_194 rfl 1 rfl ?_
      refine zs_aload_n dX12_desk_195 rfl 0 rfl ?_
      refine zs_getR fl_X12_24 dX12_desk_196 (shm_0 hN) rfl ?_
      refine zs_iload_n dX12_desk_199 rfl 1 rfl ?_
      refine zs_ialdG dX12_desk_200 (shm_4 hN) ?_
      refine zs_iastG dX12_desk_201 (shm_1 hN) (fun m1 => ?_)
      refine zs_iinc (fun y => [(2, .int y), (0, .ref (zz_a G 0))]) dX12_desk_202 1 rfl ci_1 (Nat.le_of_ble_eq_true rfl) (fun _ => rfl) (fun x2 => ?_)
      refine zs_goto (tgt := 183) dX12_desk_205 (by decide) ?_
      refine zs_sub [1, 0] rfl ?_
      exact ih _ _
def f_X12_desk_163   (s0 : Int32) (m : zz_Mem) : Option (Int32 × zz_Mem) :=
  zz_letM (zz_setI m 0 14 s0) fun m1 =>
  if (m1.1 0 11) = 0 then (
  f_X12_desk_183 zz_fuel (0 : Int32) m1)
  else (
  some ((-30 : Int32) - (m1.1 0 11), m1))
theorem t_X12_desk_163 {l : Launch} {G : zz_G} (hN : 26 ≤ zz_N G)  : ∀ (s0 : Int32) (m : zz_Mem), zz_Sim zz_shM l G mX12_desk 70 zz_vI zz_m2 (f_X12_desk_163 s0 m) 163 [(0, .ref (zz_a G 0))] [.int s0, .ref (zz_a G 0)] m := by
  intro s0 m
  unfold f_X12_desk_163
  refine zs_putI fl_X12_27 dX12_desk_163 (shm_0 hN) rfl ⟨rfl, rfl⟩ (fun m1 => ?_)
  refine zs_aload_n dX12_desk_166 rfl 0 rfl ?_
  refine zs_getI fl_X12_147 dX12_desk_167 (shm_0 hN) rfl ?_
  refine zs_if_eq (tgt := 181) dX12_desk_170 (by decide) ?_ ?_
  · refine zs_iconst (v := (0 : Int32)) dX12_desk_181 ci_0 ?_
    refine zs_istore_n [(2, .int (0 : Int32)), (0, .ref (zz_a G 0))] dX12_desk_182 rfl (Nat.le_of_ble_eq_true rfl) rfl ?_
    refine zs_sub [1, 0] rfl ?_
    exact t_X12_desk_183 hN zz_fuel _ _
  · refine zs_bipush (v := (-30 : Int32)) dX12_desk_173 cb_m30 ?_
    refine zs_aload_n dX12_desk_175 rfl 0 rfl ?_
    refine zs_getI fl_X12_147 dX12_desk_176 (shm_0 hN) rfl ?_
    refine zs_isub dX12_desk_179 ?_
    exact zs_iret dX12_desk_180 rfl rfl rfl
def f_X12_desk_139   (m : zz_Mem) : Option (Int32 × zz_Mem) :=
  zz_letM (zz_setI m 0 13 (m.1 0 11)) fun m1 =>
  if (m1.1 0 11) = 0 then (
  f_X12_desk_163 (-1 : Int32) m1)
  else (
  f_X12_desk_163 (m1.1 0 12) m1)
theorem t_X12_desk_139 {l : Launch} {G : zz_G} (hN : 26 ≤ zz_N G)  : ∀ (m : zz_Mem), zz_Sim zz_shM l G mX12_desk 70 zz_vI zz_m2 (f_X12_desk_139 m) 139 [(0, .ref (zz_a G 0))] [] m := by
  intro m
  unfold f_X12_desk_139
  refine zs_aload_n dX12_desk_139 rfl 0 rfl ?_
  refine zs_aload_n dX12_desk_140 rfl 0 rfl ?_
  refine zs_getI fl_X12_147 dX12_desk_141 (shm_0 hN) rfl ?_
  refine zs_putI fl_X12_229 dX12_desk_144 (shm_0 hN) rfl ⟨rfl, rfl⟩ (fun m1 => ?_)
  refine zs_aload_n dX12_desk_147 rfl 0 rfl ?_
  refine zs_aload_n dX12_desk_148 rfl 0 rfl ?_
  refine zs_getI fl_X12_147 dX12_desk_149 (shm_0 hN) rfl ?_
  refine zs_if_ne (tgt := 159) dX12_desk_152 (by decide) ?_ ?_
  · refine zs_aload_n dX12_desk_159 rfl 0 rfl ?_
    refine zs_getI fl_X12_150 dX12_desk_160 (shm_0 hN) rfl ?_
    exact t_X12_desk_163 hN _ _
  · refine zs_iconst (v := (-1 : Int32)) dX12_desk_155 ci_m1 ?_
    refine zs_goto (tgt := 163) dX12_desk_156 (by decide) ?_
    exact t_X12_desk_163 hN _ _
def f_X12_desk_112   : Nat → zz_Mem → Option (Int32 × zz_Mem)
  | 0, _ => none
  | n + 1, m =>
  if (m.1 0 11) = 0 then (
  if (m.1 0 9) = (30 : Int32) then (
  f_X12_desk_139 m)
  else (
  zz_bndR (f_X12_readLine m) fun m1 =>
  zz_bndR (f_X12_closes m1) fun m2 =>
  f_X12_desk_112 n m2))
  else (
  f_X12_desk_139 m)
theorem t_X12_desk_112 {l : Launch} {G : zz_G} (hN : 26 ≤ zz_N G)  : ∀ (n : Nat) (m : zz_Mem), zz_Sim zz_shM l G mX12_desk 70 zz_vI zz_m2 (f_X12_desk_112 n m) 112 [(0, .ref (zz_a G 0))] [] m := by
  intro n
  induction n with
  | zero => intro _; exact zs_none
  | succ n ih =>
    intro m
    rw [f_X12_desk_112]
    refine zs_aload_n dX12_desk_112 rfl 0 rfl ?_
    refine zs_getI fl_X12_147 dX12_desk_113 (shm_0 hN) rfl ?_
    refine zs_if_ne (tgt := 139) dX12_desk_116 (by decide) ?_ ?_
    · exact t_X12_desk_139 hN _
    · refine zs_aload_n dX12_desk_119 rfl 0 rfl ?_
      refine zs_getI fl_X12_129 dX12_desk_120 (shm_0 hN) rfl ?_
      refine zs_bipush (v := (30 : Int32)) dX12_desk_123 cb_30 ?_
      refine zs_icmp_eq (tgt := 139) dX12_desk_125 (by decide) ?_ ?_
      · exact t_X12_desk_139 hN _
      · refine zs_aload_n dX12_desk_128 rfl 0 rfl ?_
        refine zs_cV_vW (rest := []) (k_X12_readLine hN  _) dX12_desk_129 lv_X12_226 ok_X12_readLine (zz_rcv_o (shm_0 hN) rfl) (Nat.le_of_ble_eq_true rfl) rfl rfl (Nat.le_of_ble_eq_true rfl) (fun m1 => ?_)
        refine zs_aload_n dX12_desk_132 rfl 0 rfl ?_
        refine zs_cV_vW (rest := []) (k_X12_closes hN  _) dX12_desk_133 lv_X12_223 ok_X12_closes (zz_rcv_o (shm_0 hN) rfl) (Nat.le_of_ble_eq_true rfl) rfl rfl (Nat.le_of_ble_eq_true rfl) (fun m2 => ?_)
        refine zs_goto (tgt := 112) dX12_desk_136 (by decide) ?_
        exact ih _
def f_X12_desk_66   (m : zz_Mem) : Option (Int32 × zz_Mem) :=
  zz_bnd (f_X12_named (1 : Int32) (0 : Int32) (6 : Int32) m) fun r1 m2 =>
  zz_letM (zz_setI m2 4 1 r1) fun m3 =>
  zz_bnd (f_X12_named (2 : Int32) (0 : Int32) (1 : Int32) m3) fun r4 m5 =>
  zz_letM (zz_setI m5 4 2 r4) fun m6 =>
  zz_bnd (f_X12_named (3 : Int32) (0 : Int32) (9 : Int32) m6) fun r7 m8 =>
  zz_letM (zz_setI m8 4 74 r7) fun m9 =>
  zz_bndR (f_X12_closes m9) fun m10 =>
  f_X12_desk_112 zz_fuel m10
theorem t_X12_desk_66 {l : Launch} {G : zz_G} (hN : 26 ≤ zz_N G)  : ∀ (m : zz_Mem), zz_Sim zz_shM l G mX12_desk 70 zz_vI zz_m2 (f_X12_desk_66 m) 66 [(0, .ref (zz_a G 0))] [] m := by
  intro m
  unfold f_X12_desk_66
  refine zs_aload_n dX12_desk_66 rfl 0 rfl ?_
  refine zs_getR fl_X12_24 dX12_desk_67 (shm_0 hN) rfl ?_
  refine zs_iconst (v := (1 : Int32)) dX12_desk_70 ci_1 ?_
  refine zs_aload_n dX12_desk_71 rfl 0 rfl ?_
  refine zs_iconst (v := (1 : Int32)) dX12_desk_72 ci_1 ?_
  refine zs_iconst (v := (0 : Int32)) dX12_desk_73 ci_0 ?_
  refine zs_bipush (v := (6 : Int32)) dX12_desk_74 cb_6 ?_
  refine zs_cV_iW (rest := [.int (1 : Int32), .ref (zz_a G 4)]) (k_X12_named hN _ _ _ _) dX12_desk_76 lv_X12_207 ok_X12_named (zz_rcv_o (shm_0 hN) rfl) (Nat.le_of_ble_eq_true rfl) rfl rfl (Nat.le_of_ble_eq_true rfl) (fun r1 m2 => ?_)
  refine zs_iastC dX12_desk_79 (shm_4 hN) vin_1_1177 clp_1 (fun m3 => ?_)
  refine zs_aload_n dX12_desk_80 rfl 0 rfl ?_
  refine zs_getR fl_X12_24 dX12_desk_81 (shm_0 hN) rfl ?_
  refine zs_iconst (v := (2 : Int32)) dX12_desk_84 ci_2 ?_
  refine zs_aload_n dX12_desk_85 rfl 0 rfl ?_
  refine zs_iconst (v := (2 : Int32)) dX12_desk_86 ci_2 ?_
  refine zs_iconst (v := (0 : Int32)) dX12_desk_87 ci_0 ?_
  refine zs_iconst (v := (1 : Int32)) dX12_desk_88 ci_1 ?_
  refine zs_cV_iW (rest := [.int (2 : Int32), .ref (zz_a G 4)]) (k_X12_named hN _ _ _ _) dX12_desk_89 lv_X12_207 ok_X12_named (zz_rcv_o (shm_0 hN) rfl) (Nat.le_of_ble_eq_true rfl) rfl rfl (Nat.le_of_ble_eq_true rfl) (fun r4 m5 => ?_)
  refine zs_iastC dX12_desk_92 (shm_4 hN) vin_2_1177 clp_2 (fun m6 => ?_)
  refine zs_aload_n dX12_desk_93 rfl 0 rfl ?_
  refine zs_getR fl_X12_24 dX12_desk_94 (shm_0 hN) rfl ?_
  refine zs_bipush (v := (74 : Int32)) dX12_desk_97 cb_74 ?_
  refine zs_aload_n dX12_desk_99 rfl 0 rfl ?_
  refine zs_iconst (v := (3 : Int32)) dX12_desk_100 ci_3 ?_
  refine zs_iconst (v := (0 : Int32)) dX12_desk_101 ci_0 ?_
  refine zs_bipush (v := (9 : Int32)) dX12_desk_102 cb_9 ?_
  refine zs_cV_iW (rest := [.int (74 : Int32), .ref (zz_a G 4)]) (k_X12_named hN _ _ _ _) dX12_desk_104 lv_X12_207 ok_X12_named (zz_rcv_o (shm_0 hN) rfl) (Nat.le_of_ble_eq_true rfl) rfl rfl (Nat.le_of_ble_eq_true rfl) (fun r7 m8 => ?_)
  refine zs_iastC dX12_desk_107 (shm_4 hN) vin_74_1177 clp_74 (fun m9 => ?_)
  refine zs_aload_n dX12_desk_108 rfl 0 rfl ?_
  refine zs_cV_vW (rest := []) (k_X12_closes hN  _) dX12_desk_109 lv_X12_223 ok_X12_closes (zz_rcv_o (shm_0 hN) rfl) (Nat.le_of_ble_eq_true rfl) rfl rfl (Nat.le_of_ble_eq_true rfl) (fun m10 => ?_)
  exact t_X12_desk_112 hN zz_fuel _
def f_X12_desk  (p1 : Int32) (m : zz_Mem) : Option (Int32 × zz_Mem) :=
  zz_letM (zz_setI m 0 0 (0 : Int32)) fun m1 =>
  zz_bndR (f_X12_within p1.toInt64 (0 : Int64) ((m1.1 0 5).toInt64)) fun r2 =>
  if r2 = 0 then (
  some ((-3 : Int32), m1))
  else (
  zz_letM (zz_setI m1 0 8 p1) fun m3 =>
  zz_letM (zz_setI m3 0 5 (0 : Int32)) fun m4 =>
  zz_letM (zz_setI m4 0 7 (0 : Int32)) fun m5 =>
  zz_letM (zz_setI m5 0 11 (0 : Int32)) fun m6 =>
  zz_bndR (f_X12_plain 4 1177 m6) fun m7 =>
  zz_bndR (f_X12_next m7) fun m8 =>
  zz_bnd (f_X12_eats (0 : Int32) m8) fun r9 m10 =>
  if r9 = 0 then (
  zz_bndR (f_X12_fails (2 : Int32) m10) fun m11 =>
  f_X12_desk_66 m11)
  else (
  f_X12_desk_66 m10))
theorem k_X12_desk {l : Launch} {G : zz_G} (hN : 26 ≤ zz_N G) : ∀ (p1 : Int32) (m : zz_Mem), zz_Con zz_shM l G mX12_desk 70 [.ref (zz_a G 0), .int p1] zz_vI zz_m2 (f_X12_desk p1 m) m := by
  intro p1 m
  refine zz_con (lv := [(0, .ref (zz_a G 0)), (1, .int p1)]) (by decide +kernel) (Nat.le_of_ble_eq_true rfl) rfl ?_
  unfold f_X12_desk
  refine zs_aload_n dX12_desk_0 rfl 0 rfl ?_
  refine zs_iconst (v := (0 : Int32)) dX12_desk_1 ci_0 ?_
  refine zs_putI fl_X12_1 dX12_desk_2 (shm_0 hN) rfl ⟨rfl, rfl⟩ (fun m1 => ?_)
  refine zs_iload_n dX12_desk_5 rfl 1 rfl ?_
  refine zs_i2l dX12_desk_6 ?_
  refine zs_lconst (v := (0 : Int64)) dX12_desk_7 rfl ?_
  refine zs_aload_n dX12_desk_8 rfl 0 rfl ?_
  refine zs_getI fl_X12_101 dX12_desk_9 (shm_0 hN) rfl ?_
  refine zs_i2l dX12_desk_12 ?_
  refine zs_cS_iR (rest := []) (k_X12_within hN _ _ _ _) dX12_desk_13 ls_X12_163 ok_X12_within (Nat.le_of_ble_eq_true rfl) rfl rfl (Nat.le_of_ble_eq_true rfl) (fun r2 => ?_)
  refine zs_if_ne (tgt := 22) dX12_desk_16 (by decide) ?_ ?_
  · refine zs_aload_n dX12_desk_22 rfl 0 rfl ?_
    refine zs_iload_n dX12_desk_23 rfl 1 rfl ?_
    refine zs_putI fl_X12_104 dX12_desk_24 (shm_0 hN) rfl ⟨rfl, rfl⟩ (fun m3 => ?_)
    refine zs_aload_n dX12_desk_27 rfl 0 rfl ?_
    refine zs_iconst (v := (0 : Int32)) dX12_desk_28 ci_0 ?_
    refine zs_putI fl_X12_101 dX12_desk_29 (shm_0 hN) rfl ⟨rfl, rfl⟩ (fun m4 => ?_)
    refine zs_aload_n dX12_desk_32 rfl 0 rfl ?_
    refine zs_iconst (v := (0 : Int32)) dX12_desk_33 ci_0 ?_
    refine zs_putI fl_X12_122 dX12_desk_34 (shm_0 hN) rfl ⟨rfl, rfl⟩ (fun m5 => ?_)
    refine zs_aload_n dX12_desk_37 rfl 0 rfl ?_
    refine zs_iconst (v := (0 : Int32)) dX12_desk_38 ci_0 ?_
    refine zs_putI fl_X12_147 dX12_desk_39 (shm_0 hN) rfl ⟨rfl, rfl⟩ (fun m6 => ?_)
    refine zs_aload_n dX12_desk_42 rfl 0 rfl ?_
    refine zs_getR fl_X12_24 dX12_desk_43 (shm_0 hN) rfl ?_
    refine zs_cS_vW (rest := []) (k_X12_plain hN (shm_4 hN)  _) dX12_desk_46 ls_X12_94 ok_X12_plain (Nat.le_of_ble_eq_true rfl) rfl rfl (Nat.le_of_ble_eq_true rfl) (fun m7 => ?_)
    refine zs_aload_n dX12_desk_49 rfl 0 rfl ?_
    refine zs_cV_vW (rest := []) (k_X12_next hN  _) dX12_desk_50 lv_X12_156 ok_X12_next (zz_rcv_o (shm_0 hN) rfl) (Nat.le_of_ble_eq_true rfl) rfl rfl (Nat.le_of_ble_eq_true rfl) (fun m8 => ?_)
    refine zs_aload_n dX12_desk_53 rfl 0 rfl ?_
    refine zs_iconst (v := (0 : Int32)) dX12_desk_54 ci_0 ?_
    refine zs_cV_iW (rest := []) (k_X12_eats hN _ _) dX12_desk_55 lv_X12_182 ok_X12_eats (zz_rcv_o (shm_0 hN) rfl) (Nat.le_of_ble_eq_true rfl) rfl rfl (Nat.le_of_ble_eq_true rfl) (fun r9 m10 => ?_)
    refine zs_if_ne (tgt := 66) dX12_desk_58 (by decide) ?_ ?_
    · refine zs_sub [0] rfl ?_
      exact t_X12_desk_66 hN _
    · refine zs_aload_n dX12_desk_61 rfl 0 rfl ?_
      refine zs_iconst (v := (2 : Int32)) dX12_desk_62 ci_2 ?_
      refine zs_cV_vW (rest := []) (k_X12_fails hN _ _) dX12_desk_63 lv_X12_159 ok_X12_fails (zz_rcv_o (shm_0 hN) rfl) (Nat.le_of_ble_eq_true rfl) rfl rfl (Nat.le_of_ble_eq_true rfl) (fun m11 => ?_)
      refine zs_sub [0] rfl ?_
      exact t_X12_desk_66 hN _
  · refine zs_bipush (v := (-3 : Int32)) dX12_desk_19 cb_m3 ?_
    exact zs_iret dX12_desk_21 rfl rfl rfl
/-! X12_fault: PillarDeskModel.fault(I)I -/
theorem dX12_fault_0 : decode cX12_fault 0 = .ok (.aload_n 0, 1) := by decide +kernel
theorem dX12_fault_1 : decode cX12_fault 1 = .ok (.iconst 0, 1) := by decide +kernel
theorem dX12_fault_2 : decode cX12_fault 2 = .ok (.putfield 1, 3) := by decide +kernel
theorem dX12_fault_5 : decode cX12_fault 5 = .ok (.iload_n 1, 1) := by decide +kernel
theorem dX12_fault_6 : decode cX12_fault 6 = .ok (.ifCond .ne 10, 3) := by decide +kernel
theorem dX12_fault_9 : decode cX12_fault 9 = .ok (.aload_n 0, 1) := by decide +kernel
theorem dX12_fault_10 : decode cX12_fault 10 = .ok (.getfield 229, 3) := by decide +kernel
theorem dX12_fault_13 : decode cX12_fault 13 = .ok (.goto 16, 3) := by decide +kernel
theorem dX12_fault_16 : decode cX12_fault 16 = .ok (.iload_n 1, 1) := by decide +kernel
theorem dX12_fault_17 : decode cX12_fault 17 = .ok (.iconst 1, 1) := by decide +kernel
theorem dX12_fault_18 : decode cX12_fault 18 = .ok (.if_icmp .ne 10, 3) := by decide +kernel
theorem dX12_fault_21 : decode cX12_fault 21 = .ok (.aload_n 0, 1) := by decide +kernel
theorem dX12_fault_22 : decode cX12_fault 22 = .ok (.getfield 27, 3) := by decide +kernel
theorem dX12_fault_25 : decode cX12_fault 25 = .ok (.goto 4, 3) := by decide +kernel
theorem dX12_fault_28 : decode cX12_fault 28 = .ok (.iconst (-1), 1) := by decide +kernel
theorem dX12_fault_29 : decode cX12_fault 29 = .ok (.ireturn, 1) := by decide +kernel
def f_X12_fault  (p1 : Int32) (m : zz_Mem) : Option (Int32 × zz_Mem) :=
  zz_letM (zz_setI m 0 0 (0 : Int32)) fun m1 =>
  if p1 = 0 then (
  some (m1.1 0 13, m1))
  else (
  if p1 = (1 : Int32) then (
  some (m1.1 0 14, m1))
  else (
  some ((-1 : Int32), m1)))
theorem k_X12_fault {l : Launch} {G : zz_G} (hN : 26 ≤ zz_N G) : ∀ (p1 : Int32) (m : zz_Mem), zz_Con zz_shM l G mX12_fault 0 [.ref (zz_a G 0), .int p1] zz_vI zz_m2 (f_X12_fault p1 m) m := by
  intro p1 m
  refine zz_con (lv := [(0, .ref (zz_a G 0)), (1, .int p1)]) (by decide +kernel) (Nat.le_of_ble_eq_true rfl) rfl ?_
  unfold f_X12_fault
  refine zs_aload_n dX12_fault_0 rfl 0 rfl ?_
  refine zs_iconst (v := (0 : Int32)) dX12_fault_1 ci_0 ?_
  refine zs_putI fl_X12_1 dX12_fault_2 (shm_0 hN) rfl ⟨rfl, rfl⟩ (fun m1 => ?_)
  refine zs_iload_n dX12_fault_5 rfl 1 rfl ?_
  refine zs_if_ne (tgt := 16) dX12_fault_6 (by decide) ?_ ?_
  · refine zs_iload_n dX12_fault_16 rfl 1 rfl ?_
    refine zs_iconst (v := (1 : Int32)) dX12_fault_17 ci_1 ?_
    refine zs_icmp_ne (tgt := 28) dX12_fault_18 (by decide) ?_ ?_
    · refine zs_iconst (v := (-1 : Int32)) dX12_fault_28 ci_m1 ?_
      exact zs_iret dX12_fault_29 rfl rfl rfl
    · refine zs_aload_n dX12_fault_21 rfl 0 rfl ?_
      refine zs_getI fl_X12_27 dX12_fault_22 (shm_0 hN) rfl ?_
      refine zs_goto (tgt := 29) dX12_fault_25 (by decide) ?_
      exact zs_iret dX12_fault_29 rfl rfl rfl
  · refine zs_aload_n dX12_fault_9 rfl 0 rfl ?_
    refine zs_getI fl_X12_229 dX12_fault_10 (shm_0 hN) rfl ?_
    refine zs_goto (tgt := 29) dX12_fault_13 (by decide) ?_
    exact zs_iret dX12_fault_29 rfl rfl rfl
/-! X12_isInput: PillarDeskModel.isInput(J)Z -/
theorem dX12_isInput_0 : decode cX12_isInput 0 = .ok (.lload_n 1, 1) := by decide +kernel
theorem dX12_isInput_1 : decode cX12_isInput 1 = .ok (.lconst 0, 1) := by decide +kernel
theorem dX12_isInput_2 : decode cX12_isInput 2 = .ok (.aload_n 0, 1) := by decide +kernel
theorem dX12_isInput_3 : decode cX12_isInput 3 = .ok (.getfield 13, 3) := by decide +kernel
theorem dX12_isInput_6 : decode cX12_isInput 6 = .ok (.iconst 4, 1) := by decide +kernel
theorem dX12_isInput_7 : decode cX12_isInput 7 = .ok (.iaload, 1) := by decide +kernel
theorem dX12_isInput_8 : decode cX12_isInput 8 = .ok (.iconst 1, 1) := by decide +kernel
theorem dX12_isInput_9 : decode cX12_isInput 9 = .ok (.isub, 1) := by decide +kernel
theorem dX12_isInput_10 : decode cX12_isInput 10 = .ok (.i2l, 1) := by decide +kernel
theorem dX12_isInput_11 : decode cX12_isInput 11 = .ok (.invokestatic 163, 3) := by decide +kernel
theorem dX12_isInput_14 : decode cX12_isInput 14 = .ok (.ireturn, 1) := by decide +kernel
def f_X12_isInput (m : zz_Mem) (p1 : Int64) : Option Int32 :=
  zz_bndR (f_X12_within p1 (0 : Int64) (((m.1 1 4) - (1 : Int32)).toInt64)) fun r1 =>
  zz_bo r1 (some r1)
theorem k_X12_isInput {l : Launch} {G : zz_G} (hN : 26 ≤ zz_N G) : ∀ (p1 : Int64) (m : zz_Mem), zz_Con zz_shM l G mX12_isInput 1 [.ref (zz_a G 0), .long p1] zz_vIr (zz_mC m) (f_X12_isInput m p1) m := by
  intro p1 m
  refine zz_con (lv := [(0, .ref (zz_a G 0)), (1, .long p1)]) (by decide +kernel) (Nat.le_of_ble_eq_true rfl) rfl ?_
  unfold f_X12_isInput
  refine zs_lload_n dX12_isInput_0 rfl 1 rfl ?_
  refine zs_lconst (v := (0 : Int64)) dX12_isInput_1 rfl ?_
  refine zs_aload_n dX12_isInput_2 rfl 0 rfl ?_
  refine zs_getR fl_X12_13 dX12_isInput_3 (shm_0 hN) rfl ?_
  refine zs_iconst (v := (4 : Int32)) dX12_isInput_6 ci_4 ?_
  refine zs_ialdC dX12_isInput_7 (shm_1 hN) vin_4_3531 clp_4 ?_
  refine zs_iconst (v := (1 : Int32)) dX12_isInput_8 ci_1 ?_
  refine zs_isub dX12_isInput_9 ?_
  refine zs_i2l dX12_isInput_10 ?_
  refine zs_cS_iR (rest := []) (k_X12_within hN _ _ _ _) dX12_isInput_11 ls_X12_163 ok_X12_within (Nat.le_of_ble_eq_true rfl) rfl rfl (Nat.le_of_ble_eq_true rfl) (fun r1 => ?_)
  exact zs_bret dX12_isInput_14 rfl rfl rfl
/-! X12_isFlow: PillarDeskModel.isFlow(J)Z -/
theorem dX12_isFlow_0 : decode cX12_isFlow 0 = .ok (.lload_n 1, 1) := by decide +kernel
theorem dX12_isFlow_1 : decode cX12_isFlow 1 = .ok (.lconst 0, 1) := by decide +kernel
theorem dX12_isFlow_2 : decode cX12_isFlow 2 = .ok (.aload_n 0, 1) := by decide +kernel
theorem dX12_isFlow_3 : decode cX12_isFlow 3 = .ok (.getfield 13, 3) := by decide +kernel
theorem dX12_isFlow_6 : decode cX12_isFlow 6 = .ok (.iconst 5, 1) := by decide +kernel
theorem dX12_isFlow_7 : decode cX12_isFlow 7 = .ok (.iaload, 1) := by decide +kernel
theorem dX12_isFlow_8 : decode cX12_isFlow 8 = .ok (.iconst 1, 1) := by decide +kernel
theorem dX12_isFlow_9 : decode cX12_isFlow 9 = .ok (.isub, 1) := by decide +kernel
theorem dX12_isFlow_10 : decode cX12_isFlow 10 = .ok (.i2l, 1) := by decide +kernel
theorem dX12_isFlow_11 : decode cX12_isFlow 11 = .ok (.invokestatic 163, 3) := by decide +kernel
theorem dX12_isFlow_14 : decode cX12_isFlow 14 = .ok (.ireturn, 1) := by decide +kernel
def f_X12_isFlow (m : zz_Mem) (p1 : Int64) : Option Int32 :=
  zz_bndR (f_X12_within p1 (0 : Int64) (((m.1 1 5) - (1 : Int32)).toInt64)) fun r1 =>
  zz_bo r1 (some r1)
theorem k_X12_isFlow {l : Launch} {G : zz_G} (hN : 26 ≤ zz_N G) : ∀ (p1 : Int64) (m : zz_Mem), zz_Con zz_shM l G mX12_isFlow 1 [.ref (zz_a G 0), .long p1] zz_vIr (zz_mC m) (f_X12_isFlow m p1) m := by
  intro p1 m
  refine zz_con (lv := [(0, .ref (zz_a G 0)), (1, .long p1)]) (by decide +kernel) (Nat.le_of_ble_eq_true rfl) rfl ?_
  unfold f_X12_isFlow
  refine zs_lload_n dX12_isFlow_0 rfl 1 rfl ?_
  refine zs_lconst (v := (0 : Int64)) dX12_isFlow_1 rfl ?_
  refine zs_aload_n dX12_isFlow_2 rfl 0 rfl ?_
  refine zs_getR fl_X12_13 dX12_isFlow_3 (shm_0 hN) rfl ?_
  refine zs_iconst (v := (5 : Int32)) dX12_isFlow_6 ci_5 ?_
  refine zs_ialdC dX12_isFlow_7 (shm_1 hN) vin_5_3531 clp_5 ?_
  refine zs_iconst (v := (1 : Int32)) dX12_isFlow_8 ci_1 ?_
  refine zs_isub dX12_isFlow_9 ?_
  refine zs_i2l dX12_isFlow_10 ?_
  refine zs_cS_iR (rest := []) (k_X12_within hN _ _ _ _) dX12_isFlow_11 ls_X12_163 ok_X12_within (Nat.le_of_ble_eq_true rfl) rfl rfl (Nat.le_of_ble_eq_true rfl) (fun r1 => ?_)
  exact zs_bret dX12_isFlow_14 rfl rfl rfl
/-! X12_kept: PillarDeskModel.kept(III)I -/
theorem dX12_kept_0 : decode cX12_kept 0 = .ok (.iload_n 0, 1) := by decide +kernel
theorem dX12_kept_1 : decode cX12_kept 1 = .ok (.iload_n 1, 1) := by decide +kernel
theorem dX12_kept_2 : decode cX12_kept 2 = .ok (.if_icmp .ge 7, 3) := by decide +kernel
theorem dX12_kept_5 : decode cX12_kept 5 = .ok (.iload_n 1, 1) := by decide +kernel
theorem dX12_kept_6 : decode cX12_kept 6 = .ok (.goto 13, 3) := by decide +kernel
theorem dX12_kept_9 : decode cX12_kept 9 = .ok (.iload_n 0, 1) := by decide +kernel
theorem dX12_kept_10 : decode cX12_kept 10 = .ok (.iload_n 2, 1) := by decide +kernel
theorem dX12_kept_11 : decode cX12_kept 11 = .ok (.if_icmp .le 7, 3) := by decide +kernel
theorem dX12_kept_14 : decode cX12_kept 14 = .ok (.iload_n 2, 1) := by decide +kernel
theorem dX12_kept_15 : decode cX12_kept 15 = .ok (.goto 4, 3) := by decide +kernel
theorem dX12_kept_18 : decode cX12_kept 18 = .ok (.iload_n 0, 1) := by decide +kernel
theorem dX12_kept_19 : decode cX12_kept 19 = .ok (.ireturn, 1) := by decide +kernel
def f_X12_kept  (p0 : Int32) (p1 : Int32) (p2 : Int32) : Option Int32 :=
  if p1 ≤ p0 then (
  if p0 ≤ p2 then (
  some p0)
  else (
  some p2))
  else (
  some p1)
theorem k_X12_kept {l : Launch} {G : zz_G} (hN : 26 ≤ zz_N G) : ∀ (p0 : Int32) (p1 : Int32) (p2 : Int32) (m : zz_Mem), zz_Con zz_shM l G mX12_kept 0 [.int p0, .int p1, .int p2] zz_vIr (zz_mC m) (f_X12_kept p0 p1 p2) m := by
  intro p0 p1 p2 m
  refine zz_con (lv := [(0, .int p0), (1, .int p1), (2, .int p2)]) (by decide +kernel) (Nat.le_of_ble_eq_true rfl) rfl ?_
  unfold f_X12_kept
  refine zs_iload_n dX12_kept_0 rfl 0 rfl ?_
  refine zs_iload_n dX12_kept_1 rfl 1 rfl ?_
  refine zs_icmp_ge (tgt := 9) dX12_kept_2 (by decide) ?_ ?_
  · refine zs_iload_n dX12_kept_9 rfl 0 rfl ?_
    refine zs_iload_n dX12_kept_10 rfl 2 rfl ?_
    refine zs_icmp_le (tgt := 18) dX12_kept_11 (by decide) ?_ ?_
    · refine zs_iload_n dX12_kept_18 rfl 0 rfl ?_
      exact zs_iret dX12_kept_19 rfl rfl rfl
    · refine zs_iload_n dX12_kept_14 rfl 2 rfl ?_
      refine zs_goto (tgt := 19) dX12_kept_15 (by decide) ?_
      exact zs_iret dX12_kept_19 rfl rfl rfl
  · refine zs_iload_n dX12_kept_5 rfl 1 rfl ?_
    refine zs_goto (tgt := 19) dX12_kept_6 (by decide) ?_
    exact zs_iret dX12_kept_19 rfl rfl rfl
/-! X12_endOf: PillarDeskModel.endOf(II)I -/
theorem dX12_endOf_0 : decode cX12_endOf 0 = .ok (.aload_n 0, 1) := by decide +kernel
theorem dX12_endOf_1 : decode cX12_endOf 1 = .ok (.getfield 48, 3) := by decide +kernel
theorem dX12_endOf_4 : decode cX12_endOf 4 = .ok (.bipush 34, 2) := by decide +kernel
theorem dX12_endOf_6 : decode cX12_endOf 6 = .ok (.iload_n 1, 1) := by decide +kernel
theorem dX12_endOf_7 : decode cX12_endOf 7 = .ok (.imul, 1) := by decide +kernel
theorem dX12_endOf_8 : decode cX12_endOf 8 = .ok (.iload_n 2, 1) := by decide +kernel
theorem dX12_endOf_9 : decode cX12_endOf 9 = .ok (.iadd, 1) := by decide +kernel
theorem dX12_endOf_10 : decode cX12_endOf 10 = .ok (.iaload, 1) := by decide +kernel
theorem dX12_endOf_11 : decode cX12_endOf 11 = .ok (.ireturn, 1) := by decide +kernel
def f_X12_endOf (m : zz_Mem) (p1 : Int32) (p2 : Int32) : Option Int32 :=
  zz_ix (((34 : Int32) * p1) + p2) 272 <|
  some (m.1 11 (((34 : Int32) * p1) + p2).toNatClampNeg)
theorem k_X12_endOf {l : Launch} {G : zz_G} (hN : 26 ≤ zz_N G) : ∀ (p1 : Int32) (p2 : Int32) (m : zz_Mem), zz_Con zz_shM l G mX12_endOf 0 [.ref (zz_a G 0), .int p1, .int p2] zz_vIr (zz_mC m) (f_X12_endOf m p1 p2) m := by
  intro p1 p2 m
  refine zz_con (lv := [(0, .ref (zz_a G 0)), (1, .int p1), (2, .int p2)]) (by decide +kernel) (Nat.le_of_ble_eq_true rfl) rfl ?_
  unfold f_X12_endOf
  refine zs_aload_n dX12_endOf_0 rfl 0 rfl ?_
  refine zs_getR fl_X12_48 dX12_endOf_1 (shm_0 hN) rfl ?_
  refine zs_bipush (v := (34 : Int32)) dX12_endOf_4 cb_34 ?_
  refine zs_iload_n dX12_endOf_6 rfl 1 rfl ?_
  refine zs_imul dX12_endOf_7 ?_
  refine zs_iload_n dX12_endOf_8 rfl 2 rfl ?_
  refine zs_iadd dX12_endOf_9 ?_
  refine zs_ialdG dX12_endOf_10 (shm_11 hN) ?_
  exact zs_iret dX12_endOf_11 rfl rfl rfl
/-! X12_lengthOf: PillarDeskModel.lengthOf(II)I -/
theorem dX12_lengthOf_0 : decode cX12_lengthOf 0 = .ok (.aload_n 0, 1) := by decide +kernel
theorem dX12_lengthOf_1 : decode cX12_lengthOf 1 = .ok (.iload_n 1, 1) := by decide +kernel
theorem dX12_lengthOf_2 : decode cX12_lengthOf 2 = .ok (.iload_n 2, 1) := by decide +kernel
theorem dX12_lengthOf_3 : decode cX12_lengthOf 3 = .ok (.invokevirtual 251, 3) := by decide +kernel
theorem dX12_lengthOf_6 : decode cX12_lengthOf 6 = .ok (.iload_n 2, 1) := by decide +kernel
theorem dX12_lengthOf_7 : decode cX12_lengthOf 7 = .ok (.ifCond .ne 7, 3) := by decide +kernel
theorem dX12_lengthOf_10 : decode cX12_lengthOf 10 = .ok (.iconst 0, 1) := by decide +kernel
theorem dX12_lengthOf_11 : decode cX12_lengthOf 11 = .ok (.goto 11, 3) := by decide +kernel
theorem dX12_lengthOf_14 : decode cX12_lengthOf 14 = .ok (.aload_n 0, 1) := by decide +kernel
theorem dX12_lengthOf_15 : decode cX12_lengthOf 15 = .ok (.iload_n 1, 1) := by decide +kernel
theorem dX12_lengthOf_16 : decode cX12_lengthOf 16 = .ok (.iload_n 2, 1) := by decide +kernel
theorem dX12_lengthOf_17 : decode cX12_lengthOf 17 = .ok (.iconst 1, 1) := by decide +kernel
theorem dX12_lengthOf_18 : decode cX12_lengthOf 18 = .ok (.isub, 1) := by decide +kernel
theorem dX12_lengthOf_19 : decode cX12_lengthOf 19 = .ok (.invokevirtual 251, 3) := by decide +kernel
theorem dX12_lengthOf_22 : decode cX12_lengthOf 22 = .ok (.isub, 1) := by decide +kernel
theorem dX12_lengthOf_23 : decode cX12_lengthOf 23 = .ok (.ireturn, 1) := by decide +kernel
def f_X12_lengthOf (m : zz_Mem) (p1 : Int32) (p2 : Int32) : Option Int32 :=
  zz_bndR (f_X12_endOf m p1 p2) fun r1 =>
  if p2 = 0 then (
  some (r1 - (0 : Int32)))
  else (
  zz_bndR (f_X12_endOf m p1 (p2 - (1 : Int32))) fun r2 =>
  some (r1 - r2))
theorem k_X12_lengthOf {l : Launch} {G : zz_G} (hN : 26 ≤ zz_N G) : ∀ (p1 : Int32) (p2 : Int32) (m : zz_Mem), zz_Con zz_shM l G mX12_lengthOf 1 [.ref (zz_a G 0), .int p1, .int p2] zz_vIr (zz_mC m) (f_X12_lengthOf m p1 p2) m := by
  intro p1 p2 m
  refine zz_con (lv := [(0, .ref (zz_a G 0)), (1, .int p1), (2, .int p2)]) (by decide +kernel) (Nat.le_of_ble_eq_true rfl) rfl ?_
  unfold f_X12_lengthOf
  refine zs_aload_n dX12_lengthOf_0 rfl 0 rfl ?_
  refine zs_iload_n dX12_lengthOf_1 rfl 1 rfl ?_
  refine zs_iload_n dX12_lengthOf_2 rfl 2 rfl ?_
  refine zs_cV_iR (rest := []) (k_X12_endOf hN _ _ _) dX12_lengthOf_3 lv_X12_251 ok_X12_endOf (zz_rcv_o (shm_0 hN) rfl) (Nat.le_of_ble_eq_true rfl) rfl rfl (Nat.le_of_ble_eq_true rfl) (fun r1 => ?_)
  refine zs_iload_n dX12_lengthOf_6 rfl 2 rfl ?_
  refine zs_if_ne (tgt := 14) dX12_lengthOf_7 (by decide) ?_ ?_
  · refine zs_aload_n dX12_lengthOf_14 rfl 0 rfl ?_
    refine zs_iload_n dX12_lengthOf_15 rfl 1 rfl ?_
    refine zs_iload_n dX12_lengthOf_16 rfl 2 rfl ?_
    refine zs_iconst (v := (1 : Int32)) dX12_lengthOf_17 ci_1 ?_
    refine zs_isub dX12_lengthOf_18 ?_
    refine zs_cV_iR (rest := [.int r1]) (k_X12_endOf hN _ _ _) dX12_lengthOf_19 lv_X12_251 ok_X12_endOf (zz_rcv_o (shm_0 hN) rfl) (Nat.le_of_ble_eq_true rfl) rfl rfl (Nat.le_of_ble_eq_true rfl) (fun r2 => ?_)
    refine zs_isub dX12_lengthOf_22 ?_
    exact zs_iret dX12_lengthOf_23 rfl rfl rfl
  · refine zs_iconst (v := (0 : Int32)) dX12_lengthOf_10 ci_0 ?_
    refine zs_goto (tgt := 22) dX12_lengthOf_11 (by decide) ?_
    refine zs_isub dX12_lengthOf_22 ?_
    exact zs_iret dX12_lengthOf_23 rfl rfl rfl
/-! X12_isDay: PillarDeskModel.isDay(II)Z -/
theorem dX12_isDay_0 : decode cX12_isDay 0 = .ok (.iload_n 0, 1) := by decide +kernel
theorem dX12_isDay_1 : decode cX12_isDay 1 = .ok (.i2l, 1) := by decide +kernel
theorem dX12_isDay_2 : decode cX12_isDay 2 = .ok (.lconst 0, 1) := by decide +kernel
theorem dX12_isDay_3 : decode cX12_isDay 3 = .ok (.iload_n 1, 1) := by decide +kernel
theorem dX12_isDay_4 : decode cX12_isDay 4 = .ok (.i2l, 1) := by decide +kernel
theorem dX12_isDay_5 : decode cX12_isDay 5 = .ok (.invokestatic 163, 3) := by decide +kernel
theorem dX12_isDay_8 : decode cX12_isDay 8 = .ok (.ireturn, 1) := by decide +kernel
def f_X12_isDay  (p0 : Int32) (p1 : Int32) : Option Int32 :=
  zz_bndR (f_X12_within p0.toInt64 (0 : Int64) p1.toInt64) fun r1 =>
  zz_bo r1 (some r1)
theorem k_X12_isDay {l : Launch} {G : zz_G} (hN : 26 ≤ zz_N G) : ∀ (p0 : Int32) (p1 : Int32) (m : zz_Mem), zz_Con zz_shM l G mX12_isDay 1 [.int p0, .int p1] zz_vIr (zz_mC m) (f_X12_isDay p0 p1) m := by
  intro p0 p1 m
  refine zz_con (lv := [(0, .int p0), (1, .int p1)]) (by decide +kernel) (Nat.le_of_ble_eq_true rfl) rfl ?_
  unfold f_X12_isDay
  refine zs_iload_n dX12_isDay_0 rfl 0 rfl ?_
  refine zs_i2l dX12_isDay_1 ?_
  refine zs_lconst (v := (0 : Int64)) dX12_isDay_2 rfl ?_
  refine zs_iload_n dX12_isDay_3 rfl 1 rfl ?_
  refine zs_i2l dX12_isDay_4 ?_
  refine zs_cS_iR (rest := []) (k_X12_within hN _ _ _ _) dX12_isDay_5 ls_X12_163 ok_X12_within (Nat.le_of_ble_eq_true rfl) rfl rfl (Nat.le_of_ble_eq_true rfl) (fun r1 => ?_)
  exact zs_bret dX12_isDay_8 rfl rfl rfl
/-! X12_open: PillarDeskModel.open(I)I -/
theorem dX12_open_0 : decode cX12_open 0 = .ok (.aload_n 0, 1) := by decide +kernel
theorem dX12_open_1 : decode cX12_open 1 = .ok (.iconst 0, 1) := by decide +kernel
theorem dX12_open_2 : decode cX12_open 2 = .ok (.putfield 1, 3) := by decide +kernel
theorem dX12_open_5 : decode cX12_open 5 = .ok (.iload_n 1, 1) := by decide +kernel
theorem dX12_open_6 : decode cX12_open 6 = .ok (.sipush 9999, 3) := by decide +kernel
theorem dX12_open_9 : decode cX12_open 9 = .ok (.invokestatic 254, 3) := by decide +kernel
theorem dX12_open_12 : decode cX12_open 12 = .ok (.ifCond .ne 8, 3) := by decide +kernel
theorem dX12_open_15 : decode cX12_open 15 = .ok (.bipush (-3), 2) := by decide +kernel
theorem dX12_open_17 : decode cX12_open 17 = .ok (.goto 16, 3) := by decide +kernel
theorem dX12_open_20 : decode cX12_open 20 = .ok (.aload_n 0, 1) := by decide +kernel
theorem dX12_open_21 : decode cX12_open 21 = .ok (.iload_n 1, 1) := by decide +kernel
theorem dX12_open_22 : decode cX12_open 22 = .ok (.invokevirtual 242, 3) := by decide +kernel
theorem dX12_open_25 : decode cX12_open 25 = .ok (.ifCond .eq 7, 3) := by decide +kernel
theorem dX12_open_28 : decode cX12_open 28 = .ok (.iconst 1, 1) := by decide +kernel
theorem dX12_open_29 : decode cX12_open 29 = .ok (.goto 4, 3) := by decide +kernel
theorem dX12_open_32 : decode cX12_open 32 = .ok (.iconst 0, 1) := by decide +kernel
theorem dX12_open_33 : decode cX12_open 33 = .ok (.ireturn, 1) := by decide +kernel
def f_X12_open  (p1 : Int32) (m : zz_Mem) : Option (Int32 × zz_Mem) :=
  zz_letM (zz_setI m 0 0 (0 : Int32)) fun m1 =>
  zz_bndR (f_X12_isDay p1 (9999 : Int32)) fun r2 =>
  if r2 = 0 then (
  some ((-3 : Int32), m1))
  else (
  zz_bnd (f_X12_isOpen p1 m1) fun r3 m4 =>
  if r3 = 0 then (
  some ((0 : Int32), m4))
  else (
  some ((1 : Int32), m4)))
theorem k_X12_open {l : Launch} {G : zz_G} (hN : 26 ≤ zz_N G) : ∀ (p1 : Int32) (m : zz_Mem), zz_Con zz_shM l G mX12_open 3 [.ref (zz_a G 0), .int p1] zz_vI zz_m2 (f_X12_open p1 m) m := by
  intro p1 m
  refine zz_con (lv := [(0, .ref (zz_a G 0)), (1, .int p1)]) (by decide +kernel) (Nat.le_of_ble_eq_true rfl) rfl ?_
  unfold f_X12_open
  refine zs_aload_n dX12_open_0 rfl 0 rfl ?_
  refine zs_iconst (v := (0 : Int32)) dX12_open_1 ci_0 ?_
  refine zs_putI fl_X12_1 dX12_open_2 (shm_0 hN) rfl ⟨rfl, rfl⟩ (fun m1 => ?_)
  refine zs_iload_n dX12_open_5 rfl 1 rfl ?_
  refine zs_sipush (v := (9999 : Int32)) dX12_open_6 cs_9999 ?_
  refine zs_cS_iR (rest := []) (k_X12_isDay hN _ _ _) dX12_open_9 ls_X12_254 ok_X12_isDay (Nat.le_of_ble_eq_true rfl) rfl rfl (Nat.le_of_ble_eq_true rfl) (fun r2 => ?_)
  refine zs_if_ne (tgt := 20) dX12_open_12 (by decide) ?_ ?_
  · refine zs_aload_n dX12_open_20 rfl 0 rfl ?_
    refine zs_iload_n dX12_open_21 rfl 1 rfl ?_
    refine zs_cV_iW (rest := []) (k_X12_isOpen hN _ _) dX12_open_22 lv_X12_242 ok_X12_isOpen (zz_rcv_o (shm_0 hN) rfl) (Nat.le_of_ble_eq_true rfl) rfl rfl (Nat.le_of_ble_eq_true rfl) (fun r3 m4 => ?_)
    refine zs_if_eq (tgt := 32) dX12_open_25 (by decide) ?_ ?_
    · refine zs_iconst (v := (0 : Int32)) dX12_open_32 ci_0 ?_
      exact zs_iret dX12_open_33 rfl rfl rfl
    · refine zs_iconst (v := (1 : Int32)) dX12_open_28 ci_1 ?_
      refine zs_goto (tgt := 33) dX12_open_29 (by decide) ?_
      exact zs_iret dX12_open_33 rfl rfl rfl
  · refine zs_bipush (v := (-3 : Int32)) dX12_open_15 cb_m3 ?_
    refine zs_goto (tgt := 33) dX12_open_17 (by decide) ?_
    exact zs_iret dX12_open_33 rfl rfl rfl
