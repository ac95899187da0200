/-! ===== image, where a Plan is made: the walk ===== -/
theorem isPlanI_107 {G : zz_G} (hN : 121 ≤ zz_N G) : zz_isPlan G 107 :=
  ⟨⟨Nat.lt_of_lt_of_le (Nat.le_of_ble_eq_true rfl) hN, rfl⟩, ⟨Nat.lt_of_lt_of_le (Nat.le_of_ble_eq_true rfl) hN, rfl⟩, ⟨Nat.lt_of_lt_of_le (Nat.le_of_ble_eq_true rfl) hN, rfl⟩, ⟨Nat.lt_of_lt_of_le (Nat.le_of_ble_eq_true rfl) hN, rfl⟩, ⟨Nat.lt_of_lt_of_le (Nat.le_of_ble_eq_true rfl) hN, rfl⟩, ⟨Nat.lt_of_lt_of_le (Nat.le_of_ble_eq_true rfl) hN, rfl⟩, ⟨Nat.lt_of_lt_of_le (Nat.le_of_ble_eq_true rfl) hN, rfl⟩, ⟨⟨Nat.lt_of_lt_of_le (Nat.le_of_ble_eq_true rfl) hN, rfl⟩, ⟨Nat.lt_of_lt_of_le (Nat.le_of_ble_eq_true rfl) hN, rfl⟩, ⟨Nat.lt_of_lt_of_le (Nat.le_of_ble_eq_true rfl) hN, rfl⟩, ⟨Nat.lt_of_lt_of_le (Nat.le_of_ble_eq_true rfl) hN, rfl⟩⟩, ⟨⟨Nat.lt_of_lt_of_le (Nat.le_of_ble_eq_true rfl) hN, rfl⟩, ⟨Nat.lt_of_lt_of_le (Nat.le_of_ble_eq_true rfl) hN, rfl⟩, ⟨Nat.lt_of_lt_of_le (Nat.le_of_ble_eq_true rfl) hN, rfl⟩⟩⟩
def zI_adr107 (a : Nat → Nat) (q0 q1 q2 q3 q4 q5 q6 q7 q8 q9 q10 q11 q12 q13 : Nat) : Nat → Nat := fun k => if k < 107 then a k else [q0, q1, q2, q3, q4, q5, q6, q7, q8, q9, q10, q11, q12, q13].getD (k - 107) 0
def zI_new107 (E : zz_G) (q0 q1 q2 q3 q4 q5 q6 q7 q8 q9 q10 q11 q12 q13 : Nat) : va_W := [(q0, .inr (6, [.int 0, .int 0, .int 0, .int 0, .ref q1, .int 0, .ref q2, .ref q3, .ref q4, .ref q5, .int 0, .ref q6, .ref q7, .ref q11])), (q1, .inl (zz_c E 0, 12, .inl (fun _ => 0))), (q2, .inl (zz_c E 0, 8, .inl (fun _ => 0))), (q3, .inl (zz_c E 0, 8, .inl (fun _ => 0))), (q4, .inl (zz_c E 0, 8, .inl (fun _ => 0))), (q5, .inl (zz_c E 0, 8, .inl (fun _ => 0))), (q6, .inl (zz_c E 0, 10, .inl (fun _ => 0))), (q7, .inr (3, [.ref q8, .ref q9, .ref q10, .int 0, .int 0, .int 0, .int 0, .int 0])), (q8, .inl (zz_c E 0, 900, .inl (fun _ => 0))), (q9, .inl (zz_c E 0, 5, .inl (fun _ => 0))), (q10, .inl (zz_c E 0, 64, .inl (fun _ => 0))), (q11, .inr (9, [.ref q12, .ref q13, .int 0])), (q12, .inl (zz_c E 0, 8, .inl (fun _ => 0))), (q13, .inl (zz_c E 0, 10, .inl (fun _ => 0)))]
set_option maxRecDepth 20000 in
theorem zI_newlike107 (E : zz_G) (a : Nat → Nat) (q0 q1 q2 q3 q4 q5 q6 q7 q8 q9 q10 q11 q12 q13 : Nat) (m : zz_Mem) (i : Nat) : ∀ j, j < 14 → ∃ e, (zI_new107 E q0 q1 q2 q3 q4 q5 q6 q7 q8 q9 q10 q11 q12 q13)[j]? = some (zI_adr107 a q0 q1 q2 q3 q4 q5 q6 q7 q8 q9 q10 q11 q12 q13 (107 + j), e) ∧ zA_like e (zz_encS (zA_G E (zI_adr107 a q0 q1 q2 q3 q4 q5 q6 q7 q8 q9 q10 q11 q12 q13) 121 zA_T) (zI_mem m 107 i) (107 + j) (zz_sh (107 + j))) := by
  intro j hj
  match j, hj with
  | 0, _ => exact ⟨_, rfl, Or.inl (Eq.trans (b := .inr (6, zA_mp (zA_G E (zI_adr107 a q0 q1 q2 q3 q4 q5 q6 q7 q8 q9 q10 q11 q12 q13) 121 zA_T) (zI_mem m 107 i) 107 0 [(0, 0), (0, 0), (0, 0), (0, 0), (2, 108), (0, 0), (2, 109), (2, 110), (2, 111), (2, 112), (0, 0), (2, 113), (2, 114), (2, 118)])) rfl (zA_encO (zA_G E (zI_adr107 a q0 q1 q2 q3 q4 q5 q6 q7 q8 q9 q10 q11 q12 q13) 121 zA_T) (zI_mem m 107 i) 107 6 [(0, 0), (0, 0), (0, 0), (0, 0), (2, 108), (0, 0), (2, 109), (2, 110), (2, 111), (2, 112), (0, 0), (2, 113), (2, 114), (2, 118)]).symm)⟩
  | 1, _ => exact ⟨_, rfl, Or.inl rfl⟩
  | 2, _ => exact ⟨_, rfl, Or.inl rfl⟩
  | 3, _ => exact ⟨_, rfl, Or.inl rfl⟩
  | 4, _ => exact ⟨_, rfl, Or.inl rfl⟩
  | 5, _ => exact ⟨_, rfl, Or.inl rfl⟩
  | 6, _ => exact ⟨_, rfl, Or.inl rfl⟩
  | 7, _ => exact ⟨_, rfl, Or.inl (Eq.trans (b := .inr (3, zA_mp (zA_G E (zI_adr107 a q0 q1 q2 q3 q4 q5 q6 q7 q8 q9 q10 q11 q12 q13) 121 zA_T) (zI_mem m 107 i) 114 0 [(2, 115), (2, 116), (2, 117), (0, 0), (0, 0), (0, 0), (0, 0), (0, 0)])) rfl (zA_encO (zA_G E (zI_adr107 a q0 q1 q2 q3 q4 q5 q6 q7 q8 q9 q10 q11 q12 q13) 121 zA_T) (zI_mem m 107 i) 114 3 [(2, 115), (2, 116), (2, 117), (0, 0), (0, 0), (0, 0), (0, 0), (0, 0)]).symm)⟩
  | 8, _ => exact ⟨_, rfl, Or.inl rfl⟩
  | 9, _ => exact ⟨_, rfl, Or.inl rfl⟩
  | 10, _ => exact ⟨_, rfl, Or.inl rfl⟩
  | 11, _ => exact ⟨_, rfl, Or.inl (Eq.trans (b := .inr (9, zA_mp (zA_G E (zI_adr107 a q0 q1 q2 q3 q4 q5 q6 q7 q8 q9 q10 q11 q12 q13) 121 zA_T) (zI_mem m 107 i) 118 0 [(2, 119), (2, 120), (0, 0)])) rfl (zA_encO (zA_G E (zI_adr107 a q0 q1 q2 q3 q4 q5 q6 q7 q8 q9 q10 q11 q12 q13) 121 zA_T) (zI_mem m 107 i) 118 9 [(2, 119), (2, 120), (0, 0)]).symm)⟩
  | 12, _ => exact ⟨_, rfl, Or.inl rfl⟩
  | 13, _ => exact ⟨_, rfl, Or.inl rfl⟩
set_option maxRecDepth 20000 in
theorem c_X11_imageB107 {l : Launch} {E : zz_G} {a : Nat → Nat} {i : Nat} {m m' : zz_Mem} {iv : Int32} (h0 : ¬ iv < 0) (h2 : iv < 2) (hi : iv.toNatClampNeg = i) (hi2 : i < 2) (him : m.2.2 32 i = none) (hI : ∀ j o, m.2.2 32 j = some o → o < 107) (ht : ∀ o, m.2.2 30 1 = some o → o < 107) (hcp : f_X6_copyFrom 107 2 (zI_mem m 107 i) = some m') :
    zA_Con l E mX11_image 7 14 1066 [.ref (a 0), .int iv] (zz_wd zz_sh (zA_G E a 107 zA_T) m) (fun ws => ∃ a' : Nat → Nat, (∀ k, k < 107 → a' k = a k) ∧ ws = zz_wd zz_sh (zA_G E a' 121 zA_T) m') (some (.int 0)) := by
  refine zA_con (lv := [(0, .ref (a 0)), (1, .int iv)]) (by decide +kernel) (Nat.le_of_ble_eq_true rfl) rfl ?_
  have hN : ∀ A, 107 ≤ zz_N (zA_G E a 107 A) := fun A => (by decide : 107 ≤ 107)
  have hin : vp_in iv 2 := zz_vin h0 (by omega)
  have he : (zz_wd zz_sh (zA_G E a 107 zA_T) m)[32]? = some (a 32, .inl (zz_c E 6, 2, .inr (.inr (.inr (.inr (fun j => (m.2.2 32 j).map a)))))) := by
    rw [zz_wd_at (G := zA_G E a 107 zA_T) (show 32 < 107 by decide)]
    rfl
  refine zA_iload_n dX11_image_0 rfl 1 rfl ?_
  refine zA_if_ltF (tgt := 13) dX11_image_1 (by decide) h0 ?_
  refine zA_iload_n dX11_image_4 rfl 1 rfl ?_
  refine zA_aload_n dX11_image_5 rfl 0 rfl ?_
  refine zA_getM fi_X11_36 dX11_image_6 (fun A => sh_0 (hN A)) rfl ?_
  refine zA_alen6 (v := (2 : Int32)) (q0 := 32) dX11_image_9 he (by decide) ?_
  refine zA_ltT (tgt := 16) dX11_image_10 (by decide) h2 ?_
  refine zA_aload_n dX11_image_16 rfl 0 rfl ?_
  refine zA_getM fi_X11_36 dX11_image_17 (fun A => sh_0 (hN A)) rfl ?_
  refine zA_iload_n dX11_image_20 rfl 1 rfl ?_
  refine zA_aald6 (v := .null) (q0 := 32) dX11_image_21 he hin (by rw [hi, him]; rfl) ?_
  refine zA_nonnullN dX11_image_22 ?_
  refine zA_aload_n dX11_image_25 rfl 0 rfl ?_
  refine zA_getM fi_X11_36 dX11_image_26 (fun A => sh_0 (hN A)) rfl ?_
  refine zA_iload_n dX11_image_29 rfl 1 rfl ?_
  refine zA_new nw_X11_17 dX11_image_30 (Nat.le_of_ble_eq_true rfl) (Nat.le_of_ble_eq_true rfl) (fun q0 => ?_)
  refine zA_dup dX11_image_33 rfl ?_
  refine zA_callN (rest := [.ref q0, .int iv, .ref (a 32)]) (c_X6_init q0) dX11_image_34 lin_X11_19 (Nat.le_of_ble_eq_true rfl) rfl rfl (Nat.le_of_ble_eq_true rfl) (Nat.le_of_ble_eq_true rfl) (Nat.le_of_ble_eq_true rfl) (fun ws1 hB1 => ?_)
  obtain ⟨q1, q2, q3, q4, q5, q6, q7, q8, q9, q10, q11, q12, q13, rfl⟩ := hB1
  refine zA_eq (ws2 := zz_wd zz_sh (zA_G E a 107 zA_T) m ++ zI_new107 E q0 q1 q2 q3 q4 q5 q6 q7 q8 q9 q10 q11 q12 q13) rfl (zA_cnt (cs2 := 14) (sl2 := 1066) rfl rfl ?_)
  have hlen : (zz_wd zz_sh (zA_G E a 107 zA_T) m).length = 107 := by simp [zz_wd, zA_G, zz_N]
  have he2 : (zz_wd zz_sh (zA_G E a 107 zA_T) m ++ zI_new107 E q0 q1 q2 q3 q4 q5 q6 q7 q8 q9 q10 q11 q12 q13)[32]? = some (a 32, .inl (zz_c E 6, 2, .inr (.inr (.inr (.inr (fun j => (m.2.2 32 j).map a)))))) := by
    rw [List.getElem?_append_left (by rw [hlen]; decide)]
    exact he
  have hv2 : (zz_wd zz_sh (zA_G E a 107 zA_T) m ++ zI_new107 E q0 q1 q2 q3 q4 q5 q6 q7 q8 q9 q10 q11 q12 q13)[107]? = some (q0, .inr (6, [.int 0, .int 0, .int 0, .int 0, .ref q1, .int 0, .ref q2, .ref q3, .ref q4, .ref q5, .int 0, .ref q6, .ref q7, .ref q11])) := by
    rw [List.getElem?_append_right (by rw [hlen]; decide), hlen]
    rfl
  refine zA_aast6 (q0 := 32) (qk := 107) dX11_image_37 he2 hv2 rfl hin rfl ?_
  obtain ⟨a', ha'⟩ : ∃ z, z = zI_adr107 a q0 q1 q2 q3 q4 q5 q6 q7 q8 q9 q10 q11 q12 q13 := ⟨_, rfl⟩
  have hlow : ∀ k, k < 107 → a' k = a k := by
    intro k hk
    rw [ha']
    unfold zI_adr107
    rw [if_pos hk]
  refine zA_toMemB (sh := zz_sh) (n := 121) (a := a') (μ := zI_mem m 107 i) ?_ ?_
  · intro k hk
    by_cases hkn : k < 107
    · by_cases h32 : k = 32
      · subst h32
        refine ⟨.inl (zz_c E 6, 2, .inr (.inr (.inr (.inr (va_up (fun j => (m.2.2 32 j).map a) iv.toNatClampNeg (some q0)))))), ?_, Or.inl ?_⟩
        · rw [List.getElem?_set_self (by rw [List.length_append, hlen]; omega), hlow 32 (by decide)]
        · show _ = Sum.inl (zz_c E 6, 2, Sum.inr (Sum.inr (Sum.inr (Sum.inr (fun j => ((zI_mem m 107 i).2.2 32 j).map a')))))
          congr 7
          funext j
          have e32 : (zI_mem m 107 i).2.2 32 = va_up (m.2.2 32) i (some 107) := by
            show (if 107 ≤ 32 ∧ 32 < 107 + 14 then (fun _ => none) else if 32 = 32 then va_up (m.2.2 32) i (some 107) else m.2.2 32) = _
            rw [if_neg (by omega), if_pos rfl]
          rw [e32, hi]
          by_cases hj : j = i
          · subst hj
            rw [va_up_s, va_up_s, Option.map_some, ha']
            rfl
          · rw [va_up_n _ _ hj, va_up_n _ _ hj]
            cases ho : m.2.2 32 j with
            | none => rfl
            | some o => rw [Option.map_some, Option.map_some, hlow o (hI j o ho)]
      · refine ⟨zz_encS (zA_G E a 107 zA_T) m k (zz_sh k), ?_, ?_⟩
        · rw [List.getElem?_set_ne (fun z => h32 z.symm), List.getElem?_append_left (by rw [hlen]; exact hkn), zz_wd_at (G := zA_G E a 107 zA_T) hkn, hlow k hkn]
          rfl
        · refine zI_like (Or.inl rfl) hlow hkn h32 ?_ ?_ ?_ ht
          · show (if 107 ≤ k ∧ k < 107 + 14 then (fun _ => 0) else m.1 k) = _
            rw [if_neg (by omega)]
          · show (if 107 ≤ k ∧ k < 107 + 14 then (fun _ => 0) else m.2.1 k) = _
            rw [if_neg (by omega)]
          · show (if 107 ≤ k ∧ k < 107 + 14 then (fun _ => none) else if k = 32 then va_up (m.2.2 32) i (some 107) else m.2.2 k) = _
            rw [if_neg (by omega), if_neg h32]
    · obtain ⟨e1, h3, h4⟩ := zI_newlike107 E a q0 q1 q2 q3 q4 q5 q6 q7 q8 q9 q10 q11 q12 q13 m i (k - 107) (by omega)
      have e5 : 107 + (k - 107) = k := by omega
      rw [e5, ← ha'] at h3 h4
      refine ⟨e1, ?_, h4⟩
      rw [List.getElem?_set_ne (by omega), List.getElem?_append_right (by rw [hlen]; omega), hlen]
      exact h3
  have hN2 : ∀ A, 107 ≤ zz_N (zA_G E a' 121 A) := fun A => (by decide : 107 ≤ 121)
  have e0 : a 0 = a' 0 := (hlow 0 (by decide)).symm
  have en : a' 107 = q0 := by rw [ha']; rfl
  have he3 : (zz_wd zz_sh (zA_G E a' 121 zA_T) (zI_mem m 107 i))[32]? = some (a' 32, .inl (zz_c E 6, 2, .inr (.inr (.inr (.inr (fun j => ((zI_mem m 107 i).2.2 32 j).map a')))))) := by
    rw [zz_wd_at (G := zA_G E a' 121 zA_T) (show 32 < 121 by decide)]
    rfl
  refine zA_aload_n dX11_image_38 rfl 0 rfl ?_
  rw [e0]
  refine zA_getM fi_X11_36 dX11_image_39 (fun A => sh_0 (hN2 A)) rfl ?_
  refine zA_iload_n dX11_image_42 rfl 1 rfl ?_
  refine zA_aald6 (v := .ref (a' 107)) (q0 := 32) dX11_image_43 he3 hin (by
    have e32 : (zI_mem m 107 i).2.2 32 = va_up (m.2.2 32) i (some 107) := by
      show (if 107 ≤ 32 ∧ 32 < 107 + 14 then (fun _ => none) else if 32 = 32 then va_up (m.2.2 32) i (some 107) else m.2.2 32) = _
      rw [if_neg (by omega), if_pos rfl]
    rw [e32, hi, va_up_s]; rfl) ?_
  refine zA_aload_n dX11_image_44 rfl 0 rfl ?_
  refine zA_getM fl_X11_20 dX11_image_45 (fun A => sh_0 (hN2 A)) rfl ?_
  refine zA_methV (As := [.ref (a' 2)]) (rest := []) (b := a' 107) (μ' := m') (fun A => by have h := k_X6_copyFrom (l := l) (hN2 A) (isPlanI_107 (G := zA_G E a' 121 A) (Nat.le_refl 121)) (isPlan_2 (hN2 A)) (zI_mem m 107 i); rw [hcp] at h; exact h) dX11_image_48 lv_X11_132 ok_X6_copyFrom (fun A => zz_rcv_o (isPlanI_107 (G := zA_G E a' 121 A) (Nat.le_refl 121)).1 rfl) (Nat.le_of_ble_eq_true rfl) rfl rfl (Nat.le_of_ble_eq_true rfl) (Nat.le_of_ble_eq_true rfl) (Nat.le_of_ble_eq_true rfl) ?_
  refine zA_iconst (v := (0 : Int32)) dX11_image_51 (by decide) ?_
  exact zA_iret dX11_image_52 rfl rfl rfl ⟨a', hlow, rfl⟩
theorem isPlanI_121 {G : zz_G} (hN : 135 ≤ zz_N G) : zz_isPlan G 121 :=
  ⟨⟨Nat.lt_of_lt_of_le (Nat.le_of_ble_eq_true rfl) hN, rfl⟩, ⟨Nat.lt_of_lt_of_le (Nat.le_of_ble_eq_true rfl) hN, rfl⟩, ⟨Nat.lt_of_lt_of_le (Nat.le_of_ble_eq_true rfl) hN, rfl⟩, ⟨Nat.lt_of_lt_of_le (Nat.le_of_ble_eq_true rfl) hN, rfl⟩, ⟨Nat.lt_of_lt_of_le (Nat.le_of_ble_eq_true rfl) hN, rfl⟩, ⟨Nat.lt_of_lt_of_le (Nat.le_of_ble_eq_true rfl) hN, rfl⟩, ⟨Nat.lt_of_lt_of_le (Nat.le_of_ble_eq_true rfl) hN, rfl⟩, ⟨⟨Nat.lt_of_lt_of_le (Nat.le_of_ble_eq_true rfl) hN, rfl⟩, ⟨Nat.lt_of_lt_of_le (Nat.le_of_ble_eq_true rfl) hN, rfl⟩, ⟨Nat.lt_of_lt_of_le (Nat.le_of_ble_eq_true rfl) hN, rfl⟩, ⟨Nat.lt_of_lt_of_le (Nat.le_of_ble_eq_true rfl) hN, rfl⟩⟩, ⟨⟨Nat.lt_of_lt_of_le (Nat.le_of_ble_eq_true rfl) hN, rfl⟩, ⟨Nat.lt_of_lt_of_le (Nat.le_of_ble_eq_true rfl) hN, rfl⟩, ⟨Nat.lt_of_lt_of_le (Nat.le_of_ble_eq_true rfl) hN, rfl⟩⟩⟩
def zI_adr121 (a : Nat → Nat) (q0 q1 q2 q3 q4 q5 q6 q7 q8 q9 q10 q11 q12 q13 : Nat) : Nat → Nat := fun k => if k < 121 then a k else [q0, q1, q2, q3, q4, q5, q6, q7, q8, q9, q10, q11, q12, q13].getD (k - 121) 0
def zI_new121 (E : zz_G) (q0 q1 q2 q3 q4 q5 q6 q7 q8 q9 q10 q11 q12 q13 : Nat) : va_W := [(q0, .inr (6, [.int 0, .int 0, .int 0, .int 0, .ref q1, .int 0, .ref q2, .ref q3, .ref q4, .ref q5, .int 0, .ref q6, .ref q7, .ref q11])), (q1, .inl (zz_c E 0, 12, .inl (fun _ => 0))), (q2, .inl (zz_c E 0, 8, .inl (fun _ => 0))), (q3, .inl (zz_c E 0, 8, .inl (fun _ => 0))), (q4, .inl (zz_c E 0, 8, .inl (fun _ => 0))), (q5, .inl (zz_c E 0, 8, .inl (fun _ => 0))), (q6, .inl (zz_c E 0, 10, .inl (fun _ => 0))), (q7, .inr (3, [.ref q8, .ref q9, .ref q10, .int 0, .int 0, .int 0, .int 0, .int 0])), (q8, .inl (zz_c E 0, 900, .inl (fun _ => 0))), (q9, .inl (zz_c E 0, 5, .inl (fun _ => 0))), (q10, .inl (zz_c E 0, 64, .inl (fun _ => 0))), (q11, .inr (9, [.ref q12, .ref q13, .int 0])), (q12, .inl (zz_c E 0, 8, .inl (fun _ => 0))), (q13, .inl (zz_c E 0, 10, .inl (fun _ => 0)))]
set_option maxRecDepth 20000 in
theorem zI_newlike121 (E : zz_G) (a : Nat → Nat) (q0 q1 q2 q3 q4 q5 q6 q7 q8 q9 q10 q11 q12 q13 : Nat) (m : zz_Mem) (i : Nat) : ∀ j, j < 14 → ∃ e, (zI_new121 E q0 q1 q2 q3 q4 q5 q6 q7 q8 q9 q10 q11 q12 q13)[j]? = some (zI_adr121 a q0 q1 q2 q3 q4 q5 q6 q7 q8 q9 q10 q11 q12 q13 (121 + j), e) ∧ zA_like e (zz_encS (zA_G E (zI_adr121 a q0 q1 q2 q3 q4 q5 q6 q7 q8 q9 q10 q11 q12 q13) 135 zA_T) (zI_mem m 121 i) (121 + j) (zz_sh (121 + j))) := by
  intro j hj
  match j, hj with
  | 0, _ => exact ⟨_, rfl, Or.inl (Eq.trans (b := .inr (6, zA_mp (zA_G E (zI_adr121 a q0 q1 q2 q3 q4 q5 q6 q7 q8 q9 q10 q11 q12 q13) 135 zA_T) (zI_mem m 121 i) 121 0 [(0, 0), (0, 0), (0, 0), (0, 0), (2, 122), (0, 0), (2, 123), (2, 124), (2, 125), (2, 126), (0, 0), (2, 127), (2, 128), (2, 132)])) rfl (zA_encO (zA_G E (zI_adr121 a q0 q1 q2 q3 q4 q5 q6 q7 q8 q9 q10 q11 q12 q13) 135 zA_T) (zI_mem m 121 i) 121 6 [(0, 0), (0, 0), (0, 0), (0, 0), (2, 122), (0, 0), (2, 123), (2, 124), (2, 125), (2, 126), (0, 0), (2, 127), (2, 128), (2, 132)]).symm)⟩
  | 1, _ => exact ⟨_, rfl, Or.inl rfl⟩
  | 2, _ => exact ⟨_, rfl, Or.inl rfl⟩
  | 3, _ => exact ⟨_, rfl, Or.inl rfl⟩
  | 4, _ => exact ⟨_, rfl, Or.inl rfl⟩
  | 5, _ => exact ⟨_, rfl, Or.inl rfl⟩
  | 6, _ => exact ⟨_, rfl, Or.inl rfl⟩
  | 7, _ => exact ⟨_, rfl, Or.inl (Eq.trans (b := .inr (3, zA_mp (zA_G E (zI_adr121 a q0 q1 q2 q3 q4 q5 q6 q7 q8 q9 q10 q11 q12 q13) 135 zA_T) (zI_mem m 121 i) 128 0 [(2, 129), (2, 130), (2, 131), (0, 0), (0, 0), (0, 0), (0, 0), (0, 0)])) rfl (zA_encO (zA_G E (zI_adr121 a q0 q1 q2 q3 q4 q5 q6 q7 q8 q9 q10 q11 q12 q13) 135 zA_T) (zI_mem m 121 i) 128 3 [(2, 129), (2, 130), (2, 131), (0, 0), (0, 0), (0, 0), (0, 0), (0, 0)]).symm)⟩
  | 8, _ => exact ⟨_, rfl, Or.inl rfl⟩
  | 9, _ => exact ⟨_, rfl, Or.inl rfl⟩
  | 10, _ => exact ⟨_, rfl, Or.inl rfl⟩
  | 11, _ => exact ⟨_, rfl, Or.inl (Eq.trans (b := .inr (9, zA_mp (zA_G E (zI_adr121 a q0 q1 q2 q3 q4 q5 q6 q7 q8 q9 q10 q11 q12 q13) 135 zA_T) (zI_mem m 121 i) 132 0 [(2, 133), (2, 134), (0, 0)])) rfl (zA_encO (zA_G E (zI_adr121 a q0 q1 q2 q3 q4 q5 q6 q7 q8 q9 q10 q11 q12 q13) 135 zA_T) (zI_mem m 121 i) 132 9 [(2, 133), (2, 134), (0, 0)]).symm)⟩
  | 12, _ => exact ⟨_, rfl, Or.inl rfl⟩
  | 13, _ => exact ⟨_, rfl, Or.inl rfl⟩
set_option maxRecDepth 20000 in
theorem c_X11_imageB121 {l : Launch} {E : zz_G} {a : Nat → Nat} {i : Nat} {m m' : zz_Mem} {iv : Int32} (h0 : ¬ iv < 0) (h2 : iv < 2) (hi : iv.toNatClampNeg = i) (hi2 : i < 2) (him : m.2.2 32 i = none) (hI : ∀ j o, m.2.2 32 j = some o → o < 121) (ht : ∀ o, m.2.2 30 1 = some o → o < 121) (hcp : f_X6_copyFrom 121 2 (zI_mem m 121 i) = some m') :
    zA_Con l E mX11_image 7 14 1066 [.ref (a 0), .int iv] (zz_wd zz_sh (zA_G E a 121 zA_T) m) (fun ws => ∃ a' : Nat → Nat, (∀ k, k < 121 → a' k = a k) ∧ ws = zz_wd zz_sh (zA_G E a' 135 zA_T) m') (some (.int 0)) := by
  refine zA_con (lv := [(0, .ref (a 0)), (1, .int iv)]) (by decide +kernel) (Nat.le_of_ble_eq_true rfl) rfl ?_
  have hN : ∀ A, 107 ≤ zz_N (zA_G E a 121 A) := fun A => (by decide : 107 ≤ 121)
  have hin : vp_in iv 2 := zz_vin h0 (by omega)
  have he : (zz_wd zz_sh (zA_G E a 121 zA_T) m)[32]? = some (a 32, .inl (zz_c E 6, 2, .inr (.inr (.inr (.inr (fun j => (m.2.2 32 j).map a)))))) := by
    rw [zz_wd_at (G := zA_G E a 121 zA_T) (show 32 < 121 by decide)]
    rfl
  refine zA_iload_n dX11_image_0 rfl 1 rfl ?_
  refine zA_if_ltF (tgt := 13) dX11_image_1 (by decide) h0 ?_
  refine zA_iload_n dX11_image_4 rfl 1 rfl ?_
  refine zA_aload_n dX11_image_5 rfl 0 rfl ?_
  refine zA_getM fi_X11_36 dX11_image_6 (fun A => sh_0 (hN A)) rfl ?_
  refine zA_alen6 (v := (2 : Int32)) (q0 := 32) dX11_image_9 he (by decide) ?_
  refine zA_ltT (tgt := 16) dX11_image_10 (by decide) h2 ?_
  refine zA_aload_n dX11_image_16 rfl 0 rfl ?_
  refine zA_getM fi_X11_36 dX11_image_17 (fun A => sh_0 (hN A)) rfl ?_
  refine zA_iload_n dX11_image_20 rfl 1 rfl ?_
  refine zA_aald6 (v := .null) (q0 := 32) dX11_image_21 he hin (by rw [hi, him]; rfl) ?_
  refine zA_nonnullN dX11_image_22 ?_
  refine zA_aload_n dX11_image_25 rfl 0 rfl ?_
  refine zA_getM fi_X11_36 dX11_image_26 (fun A => sh_0 (hN A)) rfl ?_
  refine zA_iload_n dX11_image_29 rfl 1 rfl ?_
  refine zA_new nw_X11_17 dX11_image_30 (Nat.le_of_ble_eq_true rfl) (Nat.le_of_ble_eq_true rfl) (fun q0 => ?_)
  refine zA_dup dX11_image_33 rfl ?_
  refine zA_callN (rest := [.ref q0, .int iv, .ref (a 32)]) (c_X6_init q0) dX11_image_34 lin_X11_19 (Nat.le_of_ble_eq_true rfl) rfl rfl (Nat.le_of_ble_eq_true rfl) (Nat.le_of_ble_eq_true rfl) (Nat.le_of_ble_eq_true rfl) (fun ws1 hB1 => ?_)
  obtain ⟨q1, q2, q3, q4, q5, q6, q7, q8, q9, q10, q11, q12, q13, rfl⟩ := hB1
  refine zA_eq (ws2 := zz_wd zz_sh (zA_G E a 121 zA_T) m ++ zI_new121 E q0 q1 q2 q3 q4 q5 q6 q7 q8 q9 q10 q11 q12 q13) rfl (zA_cnt (cs2 := 14) (sl2 := 1066) rfl rfl ?_)
  have hlen : (zz_wd zz_sh (zA_G E a 121 zA_T) m).length = 121 := by simp [zz_wd, zA_G, zz_N]
  have he2 : (zz_wd zz_sh (zA_G E a 121 zA_T) m ++ zI_new121 E q0 q1 q2 q3 q4 q5 q6 q7 q8 q9 q10 q11 q12 q13)[32]? = some (a 32, .inl (zz_c E 6, 2, .inr (.inr (.inr (.inr (fun j => (m.2.2 32 j).map a)))))) := by
    rw [List.getElem?_append_left (by rw [hlen]; decide)]
    exact he
  have hv2 : (zz_wd zz_sh (zA_G E a 121 zA_T) m ++ zI_new121 E q0 q1 q2 q3 q4 q5 q6 q7 q8 q9 q10 q11 q12 q13)[121]? = some (q0, .inr (6, [.int 0, .int 0, .int 0, .int 0, .ref q1, .int 0, .ref q2, .ref q3, .ref q4, .ref q5, .int 0, .ref q6, .ref q7, .ref q11])) := by
    rw [List.getElem?_append_right (by rw [hlen]; decide), hlen]
    rfl
  refine zA_aast6 (q0 := 32) (qk := 121) dX11_image_37 he2 hv2 rfl hin rfl ?_
  obtain ⟨a', ha'⟩ : ∃ z, z = zI_adr121 a q0 q1 q2 q3 q4 q5 q6 q7 q8 q9 q10 q11 q12 q13 := ⟨_, rfl⟩
  have hlow : ∀ k, k < 121 → a' k = a k := by
    intro k hk
    rw [ha']
    unfold zI_adr121
    rw [if_pos hk]
  refine zA_toMemB (sh := zz_sh) (n := 135) (a := a') (μ := zI_mem m 121 i) ?_ ?_
  · intro k hk
    by_cases hkn : k < 121
    · by_cases h32 : k = 32
      · subst h32
        refine ⟨.inl (zz_c E 6, 2, .inr (.inr (.inr (.inr (va_up (fun j => (m.2.2 32 j).map a) iv.toNatClampNeg (some q0)))))), ?_, Or.inl ?_⟩
        · rw [List.getElem?_set_self (by rw [List.length_append, hlen]; omega), hlow 32 (by decide)]
        · show _ = Sum.inl (zz_c E 6, 2, Sum.inr (Sum.inr (Sum.inr (Sum.inr (fun j => ((zI_mem m 121 i).2.2 32 j).map a')))))
          congr 7
          funext j
          have e32 : (zI_mem m 121 i).2.2 32 = va_up (m.2.2 32) i (some 121) := by
            show (if 121 ≤ 32 ∧ 32 < 121 + 14 then (fun _ => none) else if 32 = 32 then va_up (m.2.2 32) i (some 121) else m.2.2 32) = _
            rw [if_neg (by omega), if_pos rfl]
          rw [e32, hi]
          by_cases hj : j = i
          · subst hj
            rw [va_up_s, va_up_s, Option.map_some, ha']
            rfl
          · rw [va_up_n _ _ hj, va_up_n _ _ hj]
            cases ho : m.2.2 32 j with
            | none => rfl
            | some o => rw [Option.map_some, Option.map_some, hlow o (hI j o ho)]
      · refine ⟨zz_encS (zA_G E a 121 zA_T) m k (zz_sh k), ?_, ?_⟩
        · rw [List.getElem?_set_ne (fun z => h32 z.symm), List.getElem?_append_left (by rw [hlen]; exact hkn), zz_wd_at (G := zA_G E a 121 zA_T) hkn, hlow k hkn]
          rfl
        · refine zI_like (Or.inr rfl) hlow hkn h32 ?_ ?_ ?_ ht
          · show (if 121 ≤ k ∧ k < 121 + 14 then (fun _ => 0) else m.1 k) = _
            rw [if_neg (by omega)]
          · show (if 121 ≤ k ∧ k < 121 + 14 then (fun _ => 0) else m.2.1 k) = _
            rw [if_neg (by omega)]
          · show (if 121 ≤ k ∧ k < 121 + 14 then (fun _ => none) else if k = 32 then va_up (m.2.2 32) i (some 121) else m.2.2 k) = _
            rw [if_neg (by omega), if_neg h32]
    · obtain ⟨e1, h3, h4⟩ := zI_newlike121 E a q0 q1 q2 q3 q4 q5 q6 q7 q8 q9 q10 q11 q12 q13 m i (k - 121) (by omega)
      have e5 : 121 + (k - 121) = k := by omega
      rw [e5, ← ha'] at h3 h4
      refine ⟨e1, ?_, h4⟩
      rw [List.getElem?_set_ne (by omega), List.getElem?_append_right (by rw [hlen]; omega), hlen]
      exact h3
  have hN2 : ∀ A, 107 ≤ zz_N (zA_G E a' 135 A) := fun A => (by decide : 107 ≤ 135)
  have e0 : a 0 = a' 0 := (hlow 0 (by decide)).symm
  have en : a' 121 = q0 := by rw [ha']; rfl
  have he3 : (zz_wd zz_sh (zA_G E a' 135 zA_T) (zI_mem m 121 i))[32]? = some (a' 32, .inl (zz_c E 6, 2, .inr (.inr (.inr (.inr (fun j => ((zI_mem m 121 i).2.2 32 j).map a')))))) := by
    rw [zz_wd_at (G := zA_G E a' 135 zA_T) (show 32 < 135 by decide)]
    rfl
  refine zA_aload_n dX11_image_38 rfl 0 rfl ?_
  rw [e0]
  refine zA_getM fi_X11_36 dX11_image_39 (fun A => sh_0 (hN2 A)) rfl ?_
  refine zA_iload_n dX11_image_42 rfl 1 rfl ?_
  refine zA_aald6 (v := .ref (a' 121)) (q0 := 32) dX11_image_43 he3 hin (by
    have e32 : (zI_mem m 121 i).2.2 32 = va_up (m.2.2 32) i (some 121) := by
      show (if 121 ≤ 32 ∧ 32 < 121 + 14 then (fun _ => none) else if 32 = 32 then va_up (m.2.2 32) i (some 121) else m.2.2 32) = _
      rw [if_neg (by omega), if_pos rfl]
    rw [e32, hi, va_up_s]; rfl) ?_
  refine zA_aload_n dX11_image_44 rfl 0 rfl ?_
  refine zA_getM fl_X11_20 dX11_image_45 (fun A => sh_0 (hN2 A)) rfl ?_
  refine zA_methV (As := [.ref (a' 2)]) (rest := []) (b := a' 121) (μ' := m') (fun A => by have h := k_X6_copyFrom (l := l) (hN2 A) (isPlanI_121 (G := zA_G E a' 135 A) (Nat.le_refl 135)) (isPlan_2 (hN2 A)) (zI_mem m 121 i); rw [hcp] at h; exact h) dX11_image_48 lv_X11_132 ok_X6_copyFrom (fun A => zz_rcv_o (isPlanI_121 (G := zA_G E a' 135 A) (Nat.le_refl 135)).1 rfl) (Nat.le_of_ble_eq_true rfl) rfl rfl (Nat.le_of_ble_eq_true rfl) (Nat.le_of_ble_eq_true rfl) (Nat.le_of_ble_eq_true rfl) ?_
  refine zA_iconst (v := (0 : Int32)) dX11_image_51 (by decide) ?_
  exact zA_iret dX11_image_52 rfl rfl rfl ⟨a', hlow, rfl⟩
