/-! ===== 99q: the head; a desk read ===== -/
theorem ln_head {B : Nat → Nat} {len : Nat} {μ ν : zz_Mem} (hQ : pQm B len 0 μ ν) (g1 : pG1 μ (ν.1 4) 0) (g2 : pG2 μ (ν.1 4) 0) (g3 : pG3 μ (ν.1 4) 0) (g4 : pG4 μ (ν.1 4) 0) (a0 : ν.1 4 0 = 0) (a85 : ν.1 4 85 = 0) : ∃ μ' ν', f_X7_readHead μ = some μ' ∧ (zz_bnd (f_X12_eats 0 ν) fun r9 m10 => if r9 = 0 then (zz_bndR (f_X12_fails 2 m10) fun m11 => f_X12_desk_66 m11) else f_X12_desk_66 m10) = f_X12_desk_112 zz_fuel ν' ∧ pWc μ μ' ∧ pWr ν ν' ∧ pQd B len 1 1 μ' ν' := by
  obtain ⟨μ1, ν1, y1, y2, y3, y4, y5, y6⟩ := pq_word (w := 1) (by omega) (by omega) hQ
  obtain ⟨μ2, v1, μ3, u1, ν3, b1, b2, b3, b4, b5, b6, b7⟩ := pq_named (w := 2) (c := 0) (d := 6) (by omega) (by omega) y5
  have Q3 : pQm B len (0 + 1 + 1) (zz_setI μ3 16 0 v1) (zz_setI ν3 4 1 u1) := pQm_M b6 ⟨fun _ _ => rfl, rfl, rfl⟩ ⟨fun _ _ => rfl, rfl⟩
  obtain ⟨μ4, v2, μ5, u2, ν5, c1, c2, c3, c4, c5, c6, c7⟩ := pq_named (w := 3) (c := 0) (d := 1) (by omega) (by omega) Q3
  have Q5 : pQm B len (0 + 1 + 1 + 1) (zz_setI μ5 16 1 v2) (zz_setI ν5 4 2 u2) := pQm_M c6 ⟨fun _ _ => rfl, rfl, rfl⟩ ⟨fun _ _ => rfl, rfl⟩
  obtain ⟨μ6, v3, μ7, u3, ν7, d1, d2, d3, d4, d5, d6, d7⟩ := pq_named (w := 4) (c := 0) (d := 9) (by omega) (by omega) Q5
  have Q7 : pQm B len (0 + 1 + 1 + 1 + 1) (zz_setI μ7 27 2 v3) (zz_setI ν7 4 74 u3) := pQm_M d6 ⟨fun _ _ => rfl, rfl, rfl⟩ ⟨fun _ _ => rfl, rfl⟩
  obtain ⟨μ8, ν8, e1, e2, e3, e4, e5, e6⟩ := pq_sign (i := 0) (by omega) Q7
  have b3' : f_X12_named 1 0 6 ν1 = some (u1, ν3) := b3
  have c3' : f_X12_named 2 0 1 (zz_setI ν3 4 1 u1) = some (u2, ν5) := c3
  have d3' : f_X12_named 3 0 9 (zz_setI ν5 4 2 u2) = some (u3, ν7) := d3
  have e1' : f_X7_takeSign 59 (zz_setI μ7 27 2 v3) = some μ8 := e1
  have E3 : ∀ k, k ≠ 30 → μ3.1 k = μ.1 k := fun k hk => ((pNxT y3 b4).1 k (by simp <;> omega)).1
  have E5 : ∀ k, k ≠ 30 → μ5.1 k = (zz_setI μ3 16 0 v1).1 k := fun k hk => (c4.1 k (by simp <;> omega)).1
  have E7 : ∀ k, k ≠ 30 → μ7.1 k = (zz_setI μ5 16 1 v2).1 k := fun k hk => (d4.1 k (by simp <;> omega)).1
  have E8 : ∀ k, k ≠ 30 → μ8.1 k = (zz_setI μ7 27 2 v3).1 k := fun k hk => (e3.1 k (by simp <;> omega)).1
  have R3 : ν3.1 4 = ν.1 4 := ((pNzT y4 b5).1 4 (by simp)).1
  have R5 : ν5.1 4 = (zz_setI ν3 4 1 u1).1 4 := (c5.1 4 (by simp)).1
  have R7 : ν7.1 4 = (zz_setI ν5 4 2 u2).1 4 := (d5.1 4 (by simp)).1
  have R8 : ν8.1 4 = (zz_setI ν7 4 74 u3).1 4 := (e4.1 4 (by simp)).1
  have r80 : ν8.1 4 0 = 0 := by rw [R8, qx_isN (by decide), R7, qx_isN (by decide), R5, qx_isN (by decide), R3, a0]
  have fc : pWc μ (zz_setI μ8 16 2 1) := pWc_I (pWc_N (pWc_I (pWc_N (pWc_I (pWc_N (pWc_I (pWc_N (pWc0 μ) (pNxT y3 b4)) (by simp) _ _) c4) (by simp) _ _) d4) (by simp) _ _) e3) (by simp) _ _
  have fr : pWr ν (zz_setI ν8 4 0 1) := pWr_I (pWr_Z (pWr_I (pWr_Z (pWr_I (pWr_Z (pWr_I (pWr_Z (pWr0 ν) (pNzT y4 b5)) _ _) c5) _ _) d5) _ _) e4) _ _
  refine ⟨zz_setI μ8 16 2 1, zz_setI ν8 4 0 1, ?_, ?_, fc, fr, pQd_mk (pQm_w (pQm_M e5 ⟨fun _ _ => rfl, rfl, rfl⟩ ⟨fun _ _ => rfl, rfl⟩) (by omega)) (fun p2 hp2 o2 => ?_)⟩
  · unfold f_X7_readHead
    rw [y1, pq_bndS, b1, pq_bndS, b2, pq_bnd2, pq_letM, c1, pq_bndS, c2, pq_bnd2, pq_letM, d1, pq_bndS, d2, pq_bnd2, pq_letM, e1', pq_bndS, pq_letM]
  · refine (y2 _ (fun z => f_X12_desk_66 z)).trans ?_
    show f_X12_desk_66 ν1 = _
    unfold f_X12_desk_66
    rw [b3', pq_bnd2, pq_letM, c3', pq_bnd2, pq_letM, d3', pq_bnd2, pq_letM]
    have eK : f_X12_closes (zz_setI ν7 4 74 u3) = some (zz_setI ν8 4 0 1) := by
      unfold f_X12_closes
      refine (e2 _ (fun z => f_X12_closes_14 z)).trans ?_
      show f_X12_closes_14 ν8 = _
      unfold f_X12_closes_14
      rw [pq_letM, r80]; rfl
    rw [eK, pq_bndS]
  · have o8 : (zz_setI μ7 27 2 v3).1 30 7 = 0 := e6 (show μ8.1 30 7 = 0 from pOK_7 o2)
    obtain ⟨o5, x3, s1, s2, s3, s4, s5⟩ := d7 (show μ7.1 30 7 = 0 from o8)
    obtain ⟨o3, x2, t1, t2, t3, t4, t5⟩ := c7 (show μ5.1 30 7 = 0 from o5)
    obtain ⟨o1, x1, w1, w2, w3, w4, w5⟩ := b7 (show μ3.1 30 7 = 0 from o3)
    have l6 : (6 : Int32) = nI 6 := rfl
    have l1 : (1 : Int32) = nI 1 := rfl
    rw [l6] at w5
    rw [l1] at t5
    have q1 := nI_leN w5 (by omega) (by omega)
    have q2 := nI_leN t5 (by omega) (by omega)
    have hM : ∀ k, k ≠ 16 → k ≠ 27 → k ≠ 30 → (zz_setI μ8 16 2 1).1 k = μ.1 k := fun k k1 k2 k3 => by rw [qx_in k1, E8 k k3, qx_in k2, E7 k k3, qx_in k1, E5 k k3, qx_in k1, E3 k k3]
    have hM16 : ∀ j, j ≠ 0 → j ≠ 1 → j ≠ 2 → (zz_setI μ8 16 2 1).1 16 j = μ.1 16 j := fun j j0 j1 j2 => by rw [qx_isN j2, E8 16 (by decide), qx_in (by decide), E7 16 (by decide), qx_isN j1, E5 16 (by decide), qx_isN j0, E3 16 (by decide)]
    have hA : ∀ j, j ≠ 0 → j ≠ 1 → j ≠ 2 → j ≠ 74 → (zz_setI ν8 4 0 1).1 4 j = ν.1 4 j := fun j j0 j1 j2 j3 => by rw [qx_isN j0, R8, qx_isN j3, R7, qx_isN j2, R5, qx_isN j1, R3]
    have M0 : (zz_setI μ8 16 2 1).1 16 0 = v1 := by rw [qx_isN (by decide), E8 16 (by decide), qx_in (by decide), E7 16 (by decide), qx_isN (by decide), E5 16 (by decide), qx_isE]
    have M1 : (zz_setI μ8 16 2 1).1 16 1 = v2 := by rw [qx_isN (by decide), E8 16 (by decide), qx_in (by decide), E7 16 (by decide), qx_isE]
    have M27 : (zz_setI μ8 16 2 1).1 27 2 = v3 := by rw [qx_in (by decide), E8 27 (by decide), qx_isE]
    have A1 : (zz_setI ν8 4 0 1).1 4 1 = u1 := by rw [qx_isN (by decide), R8, qx_isN (by decide), R7, qx_isN (by decide), R5, qx_isE]
    have A2 : (zz_setI ν8 4 0 1).1 4 2 = u2 := by rw [qx_isN (by decide), R8, qx_isN (by decide), R7, qx_isE]
    have A74 : (zz_setI ν8 4 0 1).1 4 74 = u3 := by rw [qx_isN (by decide), R8, qx_isE]
    refine ⟨0, 0, 0, 0, ⟨pG1_C g1 (hM16 3 (by decide) (by decide) (by decide)) (hM 17 (by decide) (by decide) (by decide)) (fun j hj => hA j (by omega) (by omega) (by omega) (by omega)), pG2_C g2 (hM16 5 (by decide) (by decide) (by decide)) (hM 18 (by decide) (by decide) (by decide)) (hM 19 (by decide) (by decide) (by decide)) (hM 20 (by decide) (by decide) (by decide)) (hM 21 (by decide) (by decide) (by decide)) (hM 28 (by decide) (by decide) (by decide)) (fun j hj => hA j (by omega) (by omega) (by omega) (by omega)), pG3_C g3 (hM16 10 (by decide) (by decide) (by decide)) (hM 22 (by decide) (by decide) (by decide)) (hM 29 (by decide) (by decide) (by decide)) (fun j hj => hA j (by omega) (by omega) (by omega) (by omega)), pG4_C g4 (hM 23 (by decide) (by decide) (by decide)) (hM 24 (by decide) (by decide) (by decide)) (fun j hj => hA j (by omega) (by omega) (by omega) (by omega)), ?_⟩, Nat.zero_le _⟩
    refine ⟨by rw [M0, A1, w2, w3], by rw [M1, A2, t2, t3], qx_isE, qx_isE, by rw [M27, A74, s2, s3], by rw [hA 85 (by decide) (by decide) (by decide) (by decide), a85], ⟨x1, q1, by rw [A1, w3]⟩, ⟨x2, q2, by rw [A2, t3]⟩⟩
theorem pq_first {B : Nat → Nat} {len : Nat} {μ ν : zz_Mem} (h1 : pTxc B len μ) (h2 : pTxr B len ν) (c3 : μ.1 30 3 = nI 0) (c7 : μ.1 30 7 = 0) (r7 : ν.1 0 7 = nI 0) (r11 : ν.1 0 11 = 0) : ∃ μ2 ν2, f_X7_next μ = some μ2 ∧ f_X12_next ν = some ν2 ∧ pNx μ μ2 ∧ pNz ν ν2 ∧ pQm B len 0 μ2 ν2 := by
  obtain ⟨μ', y1, y2, y3, y4⟩ := pc_next h1 (Nat.zero_le _) c3 c7
  obtain ⟨ν', z1, z2, z3, z4, z5, z6⟩ := pr_next h2 (Nat.zero_le _) r7
  have hp' := pkP_b (B := B) (Nat.zero_le len)
  have e11 : ν'.1 0 11 = 0 := (z2.2.2 11 (by decide) (by decide) (by decide) (by decide)).trans r11
  refine ⟨μ', ν', y1, z1, y2, pNz_y z2, ?_⟩
  rcases y4 with ⟨q1, q2, q3, q4, q5⟩ | ⟨q1, q2, q3, q4, q5⟩
  · exact Or.inl ⟨_, Nat.zero_le _, pTxc_N h1 y2, pTxr_N h2 z2, hp'.2, q1, q2, q3, y3, q4, z3, z4, z5, e11, fun e => ⟨q5 e, z6 e⟩⟩
  · rw [q1] at z5
    exact Or.inr (Or.inl ⟨_, ⟨pTxc_N h1 y2, q2, q3, by omega, q4, q5⟩, pTxr_N h2 z2, hp'.2, z3, z5, e11⟩)
theorem pc_clear (m : zz_Mem) : ∃ m', f_X6_clear m = some m' ∧ pq_fr [16, 23] m m' ∧ m'.2 = m.2 ∧ (∀ j, j = 0 ∨ j = 1 ∨ j = 2 ∨ j = 3 ∨ j = 5 ∨ j = 10 → m'.1 16 j = 0) ∧ ∀ j, 3 ≤ j → j ≤ 7 → m'.1 23 j = 0 := by
  unfold f_X6_clear f_X3_clear
  simp only [pq_letM, pq_bndS]
  refine ⟨_, rfl, ?_, rfl, fun j hj => ?_, fun j j1 j2 => ?_⟩
  · exact pq_frI (pq_frI (pq_frI (pq_frI (pq_frI (pq_frI (pq_frI (pq_frI (pq_frI (pq_frI (pq_frI (pq_fr0 m) _ _ (by simp)) _ _ (by simp)) _ _ (by simp)) _ _ (by simp)) _ _ (by simp)) _ _ (by simp)) _ _ (by simp)) _ _ (by simp)) _ _ (by simp)) _ _ (by simp)) _ _ (by simp)
  · rcases hj with rfl | rfl | rfl | rfl | rfl | rfl <;> rfl
  · have : j = 3 ∨ j = 4 ∨ j = 5 ∨ j = 6 ∨ j = 7 := by omega
    rcases this with rfl | rfl | rfl | rfl | rfl <;> rfl
theorem pr_cpy {m : zz_Mem} : ∃ m1, f_X12_desk_183 zz_fuel 0 m = f_X12_desk_208 m1 ∧ pq_fr [1] m m1 ∧ m1.2 = m.2 ∧ (∀ k, k < 1177 → m1.1 1 k = m.1 4 k) ∧ ∀ j, 1177 ≤ j → m1.1 1 j = m.1 1 j := by
  have hfu : zz_fuel = 5000 := rfl
  have l : (1177 : Int32) = nI 1177 := rfl
  have loop : ∀ (r k fuel : Nat) (m1 : zz_Mem), k + r = 1177 → r < fuel → pq_fr [1] m m1 → m1.2 = m.2 → (∀ j, j < k → m1.1 1 j = m.1 4 j) → (∀ j, 1177 ≤ j → m1.1 1 j = m.1 1 j) → ∃ m', f_X12_desk_183 fuel (nI k) m1 = f_X12_desk_208 m' ∧ pq_fr [1] m m' ∧ m'.2 = m.2 ∧ (∀ k, k < 1177 → m'.1 1 k = m.1 4 k) ∧ ∀ j, 1177 ≤ j → m'.1 1 j = m.1 1 j := by
    intro r
    induction r with
    | zero =>
      intro k fuel m1 h1 h2 f f2 h3 h4
      obtain ⟨fu, rfl⟩ : ∃ n, fuel = n + 1 := ⟨fuel - 1, by omega⟩
      rw [f_X12_desk_183, l, if_pos (nI_le (by omega) (by omega))]
      exact ⟨m1, rfl, f, f2, fun j hj => h3 j (by omega), h4⟩
    | succ r ih =>
      intro k fuel m1 h1 h2 f f2 h3 h4
      obtain ⟨fu, rfl⟩ : ∃ n, fuel = n + 1 := ⟨fuel - 1, by omega⟩
      have e4 : m1.1 4 = m.1 4 := (f 4 (by simp)).1
      rw [f_X12_desk_183, l, if_neg (nI_ge (by omega) (by omega)), pq_ixE (by omega) (by decide), pq_ixE (by omega) (by decide), nI_clamp (by omega), pq_letM, pq_letI, nI_1, e4]
      exact ih (k + 1) fu _ (by omega) (by omega) (pq_frI f _ _ (by simp)) f2 (fun j hj => by
        by_cases c : j = k
        · rw [c, qx_isE]
        · rw [qx_isN c]; exact h3 j (by omega)) (fun j hj => by rw [qx_isN (by omega)]; exact h4 j hj)
  have := loop 1177 0 zz_fuel m (by omega) (by omega) (pq_fr0 m) rfl (fun j hj => absurd hj (Nat.not_lt_zero _)) (fun _ _ => rfl)
  rw [nI_0] at this
  exact this
theorem pI_cW {m m' : zz_Mem} {a st : Nat → Int32} (h : pI_c m a st) (f : ∀ k, k ≠ 0 → (k < 16 ∨ 30 < k) → m'.1 k = m.1 k) (h18 : m'.1 0 18 = m.1 0 18) : pI_c m' a st := by
  obtain ⟨h1, h2, h3, h4, h5, h6, h7⟩ := h
  refine ⟨?_, ?_, ?_, ?_, ?_, ?_, ?_⟩
  · unfold pc_plan pc_law at h1 ⊢
    rw [f 2 (by omega) (by omega), f (2 + 1) (by omega) (by omega), f (2 + 2) (by omega) (by omega), f (2 + 3) (by omega) (by omega), f (2 + 4) (by omega) (by omega), f (2 + 5) (by omega) (by omega), f (2 + 6) (by omega) (by omega), f (2 + 7) (by omega) (by omega), f (2 + 8) (by omega) (by omega)]
    exact h1
  · unfold pc_stand at h2 ⊢; rw [f 13 (by omega) (by omega), f (13 + 1) (by omega) (by omega), f (13 + 2) (by omega) (by omega)]; exact h2
  · unfold pc_known at h3 ⊢; rw [f 82 (by omega) (by omega)]; exact h3
  · unfold pc_sched pc_row pc_pils pc_made at h4 ⊢
    rw [f 72 (by omega) (by omega), f 73 (by omega) (by omega), f 74 (by omega) (by omega), f 75 (by omega) (by omega), f 76 (by omega) (by omega), f 77 (by omega) (by omega), f 79 (by omega) (by omega), f 80 (by omega) (by omega)]
    exact h4
  · unfold pc_fb at h5 ⊢; rw [f (83 + 2) (by omega) (by omega)]; exact h5
  · unfold pc_fb at h6 ⊢; rw [f (88 + 2) (by omega) (by omega)]; exact h6
  · unfold pc_now pc_cv pc_cnt at h7 ⊢; rw [h18, f (83 + 1) (by omega) (by omega), f (83 + 2) (by omega) (by omega)]; exact h7
/-- what else the invariant says, once a desk has been read -/
theorem pI_xD {n : Nat} {μ μ' ν ν' : zz_Mem} {a : Nat → Int32} (hv : pv_D a) (h : pI_x n μ ν a) (c : ∀ k, k ≠ 0 → (k < 16 ∨ 30 < k) → μ'.1 k = μ.1 k) (c1 : μ'.2.1 = μ.2.1) (c32 : μ'.2.2 32 = μ.2.2 32) (c30 : μ'.2.2 30 1 = some 1) (c0 : μ'.1 0 1 = 0) (r : ∀ k, k ≠ 0 → k ≠ 4 → ν'.1 k = ν.1 k) (r2 : ν'.2 = ν.2) (r5 : ν'.1 0 5 = 0) (f1 : μ'.1 0 2 = ν'.1 0 13) (f2 : μ'.1 0 3 = ν'.1 0 14) : pI_x n μ' ν' a := by
  obtain ⟨x1, x2, x3, x4, x5, y1, y2, y3, y4, y5, y6, y7⟩ := h
  refine ⟨pX_pastF hv x1 (fun k k1 k2 => c k (by omega) (by omega)) (fun j j1 j2 => by rw [r 1 (by omega) (by omega)]), fun t ht => ?_, fun i hi => ?_, ⟨0, by omega, c0, r5, fun j hj => absurd hj (Nat.not_lt_zero _)⟩, ⟨f1, f2⟩, y1, fun o ho => ?_, ?_⟩
  · have := x2 t ht
    unfold pX_tray at this ⊢
    rw [c (99 + 2 * t) (by omega) (by omega), c1, r 23 (by omega) (by omega), r 24 (by omega) (by omega), r2]
    exact this
  · have := x3 i hi
    have ei : pr_img ν' i = pr_img ν i := by
      funext k
      unfold pr_img
      rw [r 1 (by omega) (by omega)]
    unfold pX_img at this ⊢
    rw [c32, r 2 (by omega) (by omega), ei]
    rcases this with h | ⟨o, o1, o2, o3, o4, o5, o6⟩
    · exact Or.inl h
    · refine Or.inr ⟨o, o1, o2, o3, ?_, ?_, o6⟩
      · unfold pc_plan pc_law at o4 ⊢
        rw [c o (by omega) (by omega), c (o + 1) (by omega) (by omega), c (o + 2) (by omega) (by omega), c (o + 3) (by omega) (by omega), c (o + 4) (by omega) (by omega), c (o + 5) (by omega) (by omega), c (o + 6) (by omega) (by omega), c (o + 7) (by omega) (by omega), c (o + 8) (by omega) (by omega)]
        exact o4
      · unfold pc_stand at o5 ⊢
        rw [c (o + 11) (by omega) (by omega), c (o + 11 + 1) (by omega) (by omega), c (o + 11 + 2) (by omega) (by omega)]
        exact o5
  · rw [c30] at ho
    have := Option.some.inj ho
    omega
  · rw [c32]; exact ⟨y3, y4, y5, y6, y7⟩
