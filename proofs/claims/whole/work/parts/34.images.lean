/-! ===== image, restore ===== -/
theorem fi_X11_36 : zz_FL RX11 36 11 7 (.array (.object "PillarDesk$Plan")) true := ⟨RX11, TX11, 20, rfl, (Nat.le_of_ble_eq_true rfl), (zz_mem 644 (by decide +kernel) rfl), inX11, ⟨tyX11, tyX11_ok, rfl⟩, nmX11, rfl⟩
def mX11_image : zz_M := (yX11_image, cX11_image, 2, (some .int))
def mX11_restore : zz_M := (yX11_restore, cX11_restore, 2, (some .int))
theorem dX11_image_0 : decode cX11_image 0 = .ok (.iload_n 1, 1) := by decide +kernel
theorem dX11_image_1 : decode cX11_image 1 = .ok (.ifCond .lt 12, 3) := by decide +kernel
theorem dX11_image_4 : decode cX11_image 4 = .ok (.iload_n 1, 1) := by decide +kernel
theorem dX11_image_5 : decode cX11_image 5 = .ok (.aload_n 0, 1) := by decide +kernel
theorem dX11_image_6 : decode cX11_image 6 = .ok (.getfield 36, 3) := by decide +kernel
theorem dX11_image_9 : decode cX11_image 9 = .ok (.arraylength, 1) := by decide +kernel
theorem dX11_image_10 : decode cX11_image 10 = .ok (.if_icmp .lt 6, 3) := by decide +kernel
theorem dX11_image_13 : decode cX11_image 13 = .ok (.bipush (-2), 2) := by decide +kernel
theorem dX11_image_15 : decode cX11_image 15 = .ok (.ireturn, 1) := by decide +kernel
theorem dX11_image_16 : decode cX11_image 16 = .ok (.aload_n 0, 1) := by decide +kernel
theorem dX11_image_17 : decode cX11_image 17 = .ok (.getfield 36, 3) := by decide +kernel
theorem dX11_image_20 : decode cX11_image 20 = .ok (.iload_n 1, 1) := by decide +kernel
theorem dX11_image_21 : decode cX11_image 21 = .ok (.aaload, 1) := by decide +kernel
theorem dX11_image_22 : decode cX11_image 22 = .ok (.ifnonnull 16, 3) := by decide +kernel
theorem dX11_image_25 : decode cX11_image 25 = .ok (.aload_n 0, 1) := by decide +kernel
theorem dX11_image_26 : decode cX11_image 26 = .ok (.getfield 36, 3) := by decide +kernel
theorem dX11_image_29 : decode cX11_image 29 = .ok (.iload_n 1, 1) := by decide +kernel
theorem dX11_image_30 : decode cX11_image 30 = .ok (.new 17, 3) := by decide +kernel
theorem dX11_image_33 : decode cX11_image 33 = .ok (.dup, 1) := by decide +kernel
theorem dX11_image_34 : decode cX11_image 34 = .ok (.invokespecial 19, 3) := by decide +kernel
theorem dX11_image_37 : decode cX11_image 37 = .ok (.aastore, 1) := by decide +kernel
theorem dX11_image_38 : decode cX11_image 38 = .ok (.aload_n 0, 1) := by decide +kernel
theorem dX11_image_39 : decode cX11_image 39 = .ok (.getfield 36, 3) := by decide +kernel
theorem dX11_image_42 : decode cX11_image 42 = .ok (.iload_n 1, 1) := by decide +kernel
theorem dX11_image_43 : decode cX11_image 43 = .ok (.aaload, 1) := by decide +kernel
theorem dX11_image_44 : decode cX11_image 44 = .ok (.aload_n 0, 1) := by decide +kernel
theorem dX11_image_45 : decode cX11_image 45 = .ok (.getfield 20, 3) := by decide +kernel
theorem dX11_image_48 : decode cX11_image 48 = .ok (.invokevirtual 132, 3) := by decide +kernel
theorem dX11_image_51 : decode cX11_image 51 = .ok (.iconst 0, 1) := by decide +kernel
theorem dX11_image_52 : decode cX11_image 52 = .ok (.ireturn, 1) := by decide +kernel
theorem dX11_restore_0 : decode cX11_restore 0 = .ok (.iload_n 1, 1) := by decide +kernel
theorem dX11_restore_1 : decode cX11_restore 1 = .ok (.ifCond .lt 12, 3) := by decide +kernel
theorem dX11_restore_4 : decode cX11_restore 4 = .ok (.iload_n 1, 1) := by decide +kernel
theorem dX11_restore_5 : decode cX11_restore 5 = .ok (.aload_n 0, 1) := by decide +kernel
theorem dX11_restore_6 : decode cX11_restore 6 = .ok (.getfield 36, 3) := by decide +kernel
theorem dX11_restore_9 : decode cX11_restore 9 = .ok (.arraylength, 1) := by decide +kernel
theorem dX11_restore_10 : decode cX11_restore 10 = .ok (.if_icmp .lt 6, 3) := by decide +kernel
theorem dX11_restore_13 : decode cX11_restore 13 = .ok (.bipush (-2), 2) := by decide +kernel
theorem dX11_restore_15 : decode cX11_restore 15 = .ok (.ireturn, 1) := by decide +kernel
theorem dX11_restore_16 : decode cX11_restore 16 = .ok (.aload_n 0, 1) := by decide +kernel
theorem dX11_restore_17 : decode cX11_restore 17 = .ok (.getfield 36, 3) := by decide +kernel
theorem dX11_restore_20 : decode cX11_restore 20 = .ok (.iload_n 1, 1) := by decide +kernel
theorem dX11_restore_21 : decode cX11_restore 21 = .ok (.aaload, 1) := by decide +kernel
theorem dX11_restore_22 : decode cX11_restore 22 = .ok (.ifnonnull 6, 3) := by decide +kernel
theorem dX11_restore_25 : decode cX11_restore 25 = .ok (.bipush (-5), 2) := by decide +kernel
theorem dX11_restore_27 : decode cX11_restore 27 = .ok (.ireturn, 1) := by decide +kernel
theorem dX11_restore_28 : decode cX11_restore 28 = .ok (.aload_n 0, 1) := by decide +kernel
theorem dX11_restore_29 : decode cX11_restore 29 = .ok (.getfield 20, 3) := by decide +kernel
theorem dX11_restore_32 : decode cX11_restore 32 = .ok (.aload_n 0, 1) := by decide +kernel
theorem dX11_restore_33 : decode cX11_restore 33 = .ok (.getfield 36, 3) := by decide +kernel
theorem dX11_restore_36 : decode cX11_restore 36 = .ok (.iload_n 1, 1) := by decide +kernel
theorem dX11_restore_37 : decode cX11_restore 37 = .ok (.aaload, 1) := by decide +kernel
theorem dX11_restore_38 : decode cX11_restore 38 = .ok (.invokevirtual 132, 3) := by decide +kernel
theorem dX11_restore_41 : decode cX11_restore 41 = .ok (.aload_n 0, 1) := by decide +kernel
theorem dX11_restore_42 : decode cX11_restore 42 = .ok (.getfield 49, 3) := by decide +kernel
theorem dX11_restore_45 : decode cX11_restore 45 = .ok (.invokevirtual 135, 3) := by decide +kernel
theorem dX11_restore_48 : decode cX11_restore 48 = .ok (.aload_n 0, 1) := by decide +kernel
theorem dX11_restore_49 : decode cX11_restore 49 = .ok (.getfield 66, 3) := by decide +kernel
theorem dX11_restore_52 : decode cX11_restore 52 = .ok (.invokevirtual 109, 3) := by decide +kernel
theorem dX11_restore_55 : decode cX11_restore 55 = .ok (.aload_n 0, 1) := by decide +kernel
theorem dX11_restore_56 : decode cX11_restore 56 = .ok (.iconst 1, 1) := by decide +kernel
theorem dX11_restore_57 : decode cX11_restore 57 = .ok (.putfield 104, 3) := by decide +kernel
theorem dX11_restore_60 : decode cX11_restore 60 = .ok (.iconst 0, 1) := by decide +kernel
theorem dX11_restore_61 : decode cX11_restore 61 = .ok (.ireturn, 1) := by decide +kernel
section ZI
variable {sh : Nat → zz_Sh} {l : Launch} {G : zz_G} {M : zz_M} {d : Nat} {τ : Type} {val : τ → Option Value} {mem : τ → zz_Mem} {f : Option τ} {pc n : Nat} {lv : List (Nat × Value)} {st : List Value} {μ : zz_Mem}
theorem zs_aald6 {kk z : Nat} {i : Int32} {v : Value} (hd : decode M.2.1 pc = .ok (.aaload, 1)) (S0 : zz_SH sh G kk (6, n, [(6, z)])) (hv : va_rf ((μ.2.2 kk i.toNatClampNeg).map (zz_a G)) = v) (k : zz_Sim sh l G M d val mem f (pc + 1) lv (v :: st) μ) : zz_Sim sh l G M d val mem (zz_ix i n f) pc lv (.int i :: .ref (zz_a G kk) :: st) μ := by
  unfold zz_ix
  by_cases h : i < 0 ∨ n ≤ i.toNatClampNeg
  · rw [if_pos h]; exact zs_none
  · rw [if_neg h]
    subst hv
    obtain ⟨hk, hsh⟩ := S0
    exact fun q hq p e s m args below meth c C H locs ls hP hS hl => va_aldq (f := fun j => (μ.2.2 kk j).map (zz_a G)) C.1 C.2.1 C.2.2.2.2.2.2.2.1 hP kk 6 (by rw [zz_wd_at hk, hsh]; rfl) (C := "PillarDesk$Plan") rfl h hd (k q hq p e s m args below meth c C H locs ls hP hS hl)
theorem zs_nonnullN {off : Int} (hd : decode M.2.1 pc = .ok (.ifnonnull off, 3)) (k : zz_Sim sh l G M d val mem f (pc + 3) lv st μ) : zz_Sim sh l G M d val mem f pc lv (.null :: st) μ := fun q hq p e s m args below meth c C H locs ls hP hS hl => lv_ifnonnullN C.1 C.2.1 hd (k q hq p e s m args below meth c C H locs ls hP hS hl)
theorem zs_nonnull {off : Int} {tgt x : Nat} (hd : decode M.2.1 pc = .ok (.ifnonnull off, 3)) (ht : (pc : Int) + off = (tgt : Int)) (k : zz_Sim sh l G M d val mem f tgt lv st μ) : zz_Sim sh l G M d val mem f pc lv (.ref x :: st) μ := fun q hq p e s m args below meth c C H locs ls hP hS hl => lv_ifnonnull C.1 C.2.1 hd ht (k q hq p e s m args below meth c C H locs ls hP hS hl)
end ZI
def f_X11_restore (p1 : Int32) (m : zz_Mem) : Option (Int32 × zz_Mem) :=
  if p1 < 0 then some (-2, m) else if p1 < 2 then (zz_ix p1 2 <| match m.2.2 32 p1.toNatClampNeg with
    | none => some (-5, m)
    | some o => zz_ix p1 2 <| zz_bndR (f_X6_copyFrom 2 o m) fun m1 => zz_bndR (f_X5_clear m1) fun m2 => zz_bndR (f_X8_lay m2) fun m3 => zz_letM (zz_setI m3 0 18 1) fun m4 => some (0, m4)) else some (-2, m)
theorem k_X11_restore {l : Launch} {G : zz_G} (hN : 107 ≤ zz_N G) (p1 : Int32) (m : zz_Mem) (hI : ∀ j o, m.2.2 32 j = some o → zz_isPlan G o) : zz_Con zz_sh l G mX11_restore 7 [.ref (zz_a G 0), .int p1] zz_vI zz_m2 (f_X11_restore p1 m) m := by
  refine zz_con (lv := [(0, .ref (zz_a G 0)), (1, .int p1)]) (by decide +kernel) (Nat.le_of_ble_eq_true rfl) rfl ?_
  unfold f_X11_restore
  refine zs_iload_n dX11_restore_0 rfl 1 rfl ?_
  refine zs_if_lt (tgt := 13) dX11_restore_1 (by decide) ?_ ?_
  · refine zs_bipush (v := (-2 : Int32)) dX11_restore_13 (by decide) ?_
    exact zs_iret dX11_restore_15 rfl rfl rfl
  · refine zs_iload_n dX11_restore_4 rfl 1 rfl ?_
    refine zs_aload_n dX11_restore_5 rfl 0 rfl ?_
    refine zs_getR fi_X11_36 dX11_restore_6 (sh_0 hN) rfl ?_
    refine zs_alen6 (v := (2 : Int32)) dX11_restore_9 (sh_32 hN) (by decide) ?_
    refine zs_icmp_lt (tgt := 16) dX11_restore_10 (by decide) ?_ ?_
    · refine zs_aload_n dX11_restore_16 rfl 0 rfl ?_
      refine zs_getR fi_X11_36 dX11_restore_17 (sh_0 hN) rfl ?_
      refine zs_iload_n dX11_restore_20 rfl 1 rfl ?_
      cases hq : m.2.2 32 p1.toNatClampNeg with
      | none =>
        refine zs_aald6 (v := .null) dX11_restore_21 (sh_32 hN) (by rw [hq]; rfl) ?_
        refine zs_nonnullN dX11_restore_22 ?_
        refine zs_bipush (v := (-5 : Int32)) dX11_restore_25 (by decide) ?_
        exact zs_iret dX11_restore_27 rfl rfl rfl
      | some o =>
        refine zs_aald6 (v := .ref (zz_a G o)) dX11_restore_21 (sh_32 hN) (by rw [hq]; rfl) ?_
        refine zs_nonnull (tgt := 28) dX11_restore_22 (by decide) ?_
        refine zs_aload_n dX11_restore_28 rfl 0 rfl ?_
        refine zs_getR fl_X11_20 dX11_restore_29 (sh_0 hN) rfl ?_
        refine zs_aload_n dX11_restore_32 rfl 0 rfl ?_
        refine zs_getR fi_X11_36 dX11_restore_33 (sh_0 hN) rfl ?_
        refine zs_iload_n dX11_restore_36 rfl 1 rfl ?_
        refine zs_aald6 (v := .ref (zz_a G o)) dX11_restore_37 (sh_32 hN) (by rw [hq]; rfl) ?_
        refine zs_cV_vW (rest := []) (k_X6_copyFrom hN (isPlan_2 hN) (hI _ _ hq) _) dX11_restore_38 lv_X11_132 ok_X6_copyFrom (zz_rcv_o (sh_2 hN) rfl) (Nat.le_of_ble_eq_true rfl) rfl rfl (Nat.le_of_ble_eq_true rfl) (fun m1 => ?_)
        refine zs_aload_n dX11_restore_41 rfl 0 rfl ?_
        refine zs_getR fl_X11_49 dX11_restore_42 (sh_0 hN) rfl ?_
        refine zs_cV_vW (rest := []) (k_X5_clear hN _) dX11_restore_45 lv_X11_135 ok_X5_clear (zz_rcv_o (sh_34 hN) rfl) (Nat.le_of_ble_eq_true rfl) rfl rfl (Nat.le_of_ble_eq_true rfl) (fun m2 => ?_)
        refine zs_aload_n dX11_restore_48 rfl 0 rfl ?_
        refine zs_getR fl_X11_66 dX11_restore_49 (sh_0 hN) rfl ?_
        refine zs_cV_vW (rest := []) (k_X8_lay hN _) dX11_restore_52 lv_X11_109 ok_X8_lay (zz_rcv_o (sh_72 hN) rfl) (Nat.le_of_ble_eq_true rfl) rfl rfl (Nat.le_of_ble_eq_true rfl) (fun m3 => ?_)
        refine zs_aload_n dX11_restore_55 rfl 0 rfl ?_
        refine zs_iconst (v := (1 : Int32)) dX11_restore_56 (by decide) ?_
        refine zs_putI fl_X11_104 dX11_restore_57 (sh_0 hN) rfl ⟨rfl, rfl⟩ (fun m4 => ?_)
        refine zs_iconst (v := (0 : Int32)) dX11_restore_60 (by decide) ?_
        exact zs_iret dX11_restore_61 rfl rfl rfl
    · refine zs_bipush (v := (-2 : Int32)) dX11_restore_13 (by decide) ?_
      exact zs_iret dX11_restore_15 rfl rfl rfl
/-- image, where no cell is made -/
def f_X11_imageA (p1 : Int32) (m : zz_Mem) : Option (Int32 × zz_Mem) :=
  if p1 < 0 then some (-2, m) else if p1 < 2 then (zz_ix p1 2 <| match m.2.2 32 p1.toNatClampNeg with
    | none => none
    | some o => zz_ix p1 2 <| zz_bndR (f_X6_copyFrom o 2 m) fun m1 => some (0, m1)) else some (-2, m)
theorem k_X11_imageA {l : Launch} {G : zz_G} (hN : 107 ≤ zz_N G) (p1 : Int32) (m : zz_Mem) (hI : ∀ j o, m.2.2 32 j = some o → zz_isPlan G o) : zz_Con zz_sh l G mX11_image 7 [.ref (zz_a G 0), .int p1] zz_vI zz_m2 (f_X11_imageA p1 m) m := by
  refine zz_con (lv := [(0, .ref (zz_a G 0)), (1, .int p1)]) (by decide +kernel) (Nat.le_of_ble_eq_true rfl) rfl ?_
  unfold f_X11_imageA
  refine zs_iload_n dX11_image_0 rfl 1 rfl ?_
  refine zs_if_lt (tgt := 13) dX11_image_1 (by decide) ?_ ?_
  · refine zs_bipush (v := (-2 : Int32)) dX11_image_13 (by decide) ?_
    exact zs_iret dX11_image_15 rfl rfl rfl
  · refine zs_iload_n dX11_image_4 rfl 1 rfl ?_
    refine zs_aload_n dX11_image_5 rfl 0 rfl ?_
    refine zs_getR fi_X11_36 dX11_image_6 (sh_0 hN) rfl ?_
    refine zs_alen6 (v := (2 : Int32)) dX11_image_9 (sh_32 hN) (by decide) ?_
    refine zs_icmp_lt (tgt := 16) dX11_image_10 (by decide) ?_ ?_
    · refine zs_aload_n dX11_image_16 rfl 0 rfl ?_
      refine zs_getR fi_X11_36 dX11_image_17 (sh_0 hN) rfl ?_
      refine zs_iload_n dX11_image_20 rfl 1 rfl ?_
      cases hq : m.2.2 32 p1.toNatClampNeg with
      | none =>
        refine zs_aald6 (v := .null) dX11_image_21 (sh_32 hN) (by rw [hq]; rfl) ?_
        exact zs_none
      | some o =>
        refine zs_aald6 (v := .ref (zz_a G o)) dX11_image_21 (sh_32 hN) (by rw [hq]; rfl) ?_
        refine zs_nonnull (tgt := 38) dX11_image_22 (by decide) ?_
        refine zs_aload_n dX11_image_38 rfl 0 rfl ?_
        refine zs_getR fi_X11_36 dX11_image_39 (sh_0 hN) rfl ?_
        refine zs_iload_n dX11_image_42 rfl 1 rfl ?_
        refine zs_aald6 (v := .ref (zz_a G o)) dX11_image_43 (sh_32 hN) (by rw [hq]; rfl) ?_
        refine zs_aload_n dX11_image_44 rfl 0 rfl ?_
        refine zs_getR fl_X11_20 dX11_image_45 (sh_0 hN) rfl ?_
        refine zs_cV_vW (rest := []) (k_X6_copyFrom hN (hI _ _ hq) (isPlan_2 hN) _) dX11_image_48 lv_X11_132 ok_X6_copyFrom (zz_rcv_o (hI _ _ hq).1 rfl) (Nat.le_of_ble_eq_true rfl) rfl rfl (Nat.le_of_ble_eq_true rfl) (fun m1 => ?_)
        refine zs_iconst (v := (0 : Int32)) dX11_image_51 (by decide) ?_
        exact zs_iret dX11_image_52 rfl rfl rfl
    · refine zs_bipush (v := (-2 : Int32)) dX11_image_13 (by decide) ?_
      exact zs_iret dX11_image_15 rfl rfl rfl
