/-! ===== 78: weeks; trays ===== -/
theorem pdDeed_b (x : Int32) : (pdDeed x).1 < 2147483648 := by
  unfold pdDeed
  split
  · show 10 + pdq (pdx (pdx x)) % 10 < _; omega
  · split
    · show 10000 + 2000 * (pdq (pdx (pdx x)) % 10) + pdq (pdx (pdx (pdx x))) % 1999 < _; omega
    · show 1000 + 1000 * (pdq (pdx (pdx x)) % 8) + pdq (pdx (pdx (pdx x))) % 199 < _; omega
theorem pj_week {a : Nat → Int32} (hv : pv_D a) {T : Nat} (hT : T ≤ 40) : ∀ (r k d fuel : Nat) (m ν : zz_Mem) (st : Nat → Int32), k + r = T → r < fuel → d ≤ k → pJ a 13 m ν st → m.1 0 19 = ν.1 0 31 →
    ∃ d' m' ν' st', d ≤ d' ∧ d' ≤ 40 ∧ f_X11_week_38 fuel (nI T) (nI d) (nI k) m = f_X11_week_75 (nI d') m' ∧ f_X12_week_34 fuel (nI T) (nI d) (nI k) ν = f_X12_week_74 (nI d') ν' ∧ pJ a 13 m' ν' st' ∧ pFc m m' ∧ pFr ν ν' ∧ (m'.1 66 = m.1 66 ∧ m'.1 67 = m.1 67 ∧ m'.1 68 = m.1 68) ∧ m'.1 0 18 = m.1 0 18 ∧ (d' = d → (m'.1 13 = m.1 13 ∧ m'.1 14 = m.1 14 ∧ m'.1 15 = m.1 15) ∧ st' = st) ∧ ν'.1 17 = ν.1 17 := by
  intro r
  induction r with
  | zero =>
    intro k d fuel m ν st h1 h2 hd hJ hx
    obtain ⟨fu, rfl⟩ : ∃ n, fuel = n + 1 := ⟨fuel - 1, by omega⟩
    have e : k = T := by omega
    subst e
    rw [f_X11_week_38, f_X12_week_34, if_pos (Int32.le_refl _), if_pos (Int32.le_refl _)]
    exact ⟨d, m, ν, st, Nat.le_refl _, by omega, rfl, rfl, hJ, pFc0 m, pFr0 ν, ⟨rfl, rfl, rfl⟩, rfl, fun _ => ⟨⟨rfl, rfl, rfl⟩, rfl⟩, rfl⟩
  | succ r ih =>
    intro k d fuel m ν st h1 h2 hd hJ hx
    obtain ⟨fu, rfl⟩ : ∃ n, fuel = n + 1 := ⟨fuel - 1, by omega⟩
    rw [f_X11_week_38, f_X12_week_34, if_neg (nI_ge (by omega) (by omega)), if_neg (nI_ge (by omega) (by omega)), pd_c, pd_r, pq_bnd2, pq_bnd2, ← hx]
    have hb := pdDeed_b (m.1 0 19)
    generalize pdDeed (m.1 0 19) = D at *
    have hJ1 : pJ a 13 (zz_setI m 0 19 D.2) (zz_setI ν 0 31 D.2) st := by
      obtain ⟨h1, h2, h3, h4, h5⟩ := hJ
      have f : pq_fr [0] m (zz_setI m 0 19 D.2) := pq_frI (pq_fr0 m) _ _ (by simp)
      exact ⟨pc_planF h1 f (fun j hj => by simp <;> omega), pc_standF h2 f (by simp) (by simp) (by simp), h3, h4, h5⟩
    have fcS : pFc m (zz_setI m 0 19 D.2) := pFc19 m (Or.inr rfl) _
    have frS : pFr ν (zz_setI ν 0 31 D.2) := pFrI ν (by decide) _
    have e32 : (nI D.1).toInt64.toInt32 = nI D.1 := by simp
    rcases pj_deed hv (Or.inl rfl) hJ1 (nI D.1).toInt64 with ⟨m', ν', st', d1, d2, d3, d4, d5⟩ | ⟨w, w0, w1, w2⟩
    · obtain ⟨u1, u2⟩ := pFcJ (Or.inl rfl) d5
      rw [e32] at d3
      rw [d1, d2, pq_bnd2, pq_bndS, if_pos rfl, if_pos rfl, d3, pq_bndS, pq_letI, pq_letI, pq_letI, pq_letI, nI_1, nI_1]
      have x1 : m'.1 0 = (zz_setI m 0 19 D.2).1 0 := (d5.1 0 (by simp)).1
      have x2 : ν'.1 0 = (zz_setI ν 0 31 D.2).1 0 := (d5.2.1 0 (by simp)).1
      obtain ⟨d', m2, ν2, st2, z1, z2, z3, z4, z5, z6, z7, z8, z9, z10, z11⟩ := ih (k + 1) (d + 1) fu m' ν' st' (by omega) (by omega) (by omega) d4 (by rw [x1, x2, qx_isE, qx_isE])
      refine ⟨d', m2, ν2, st2, by omega, z2, z3, z4, z5, pFcT fcS (pFcT u1 z6), pFrT frS (pFrT u2 z7), ?_, ?_, fun e => by omega, ?_⟩
      · refine ⟨z8.1.trans ?_, z8.2.1.trans ?_, z8.2.2.trans ?_⟩
        · rw [(d5.1 66 (by simp)).1, pz_In _ _ _ (by decide)]
        · rw [(d5.1 67 (by simp)).1, pz_In _ _ _ (by decide)]
        · rw [(d5.1 68 (by simp)).1, pz_In _ _ _ (by decide)]
      · rw [z9, x1, qx_isN (by decide)]
      · rw [z11, (d5.2.1 17 (by simp)).1, pz_In _ _ _ (by decide)]
    · rw [w1, w2, pq_bnd2, pq_bndS, if_neg w0, if_neg w0, pq_letI, pq_letI, nI_1]
      obtain ⟨d', m2, ν2, st2, z1, z2, z3, z4, z5, z6, z7, z8, z9, z10, z11⟩ := ih (k + 1) d fu (zz_setI m 0 19 D.2) (zz_setI ν 0 31 D.2) st (by omega) (by omega) (by omega) hJ1 (by rw [qx_isE, qx_isE])
      refine ⟨d', m2, ν2, st2, z1, z2, z3, z4, z5, pFcT fcS z6, pFrT frS z7, ?_, ?_, fun e => ?_, ?_⟩
      · exact ⟨z8.1.trans (pz_In _ _ _ (by decide)), z8.2.1.trans (pz_In _ _ _ (by decide)), z8.2.2.trans (pz_In _ _ _ (by decide))⟩
      · rw [z9, qx_isN (by decide)]
      · obtain ⟨y1, y2⟩ := z10 e
        exact ⟨⟨y1.1.trans (pz_In _ _ _ (by decide)), y1.2.1.trans (pz_In _ _ _ (by decide)), y1.2.2.trans (pz_In _ _ _ (by decide))⟩, y2⟩
      · rw [z11, pz_In _ _ _ (by decide)]
theorem op_week : zL_op16 pI := by
  intro n μ ν p1 p2 ⟨a, hv, hS, hc, hr, hx⟩
  have k0 := pr_t0 hr 0 (by decide) 0
  have fr0 : pFr ν (zz_setI ν 0 0 0) := pFrI ν (by decide) 0
  obtain ⟨m1, e1, f1, fc1, h66, hJ⟩ := pj_start hv hS hc hr 66 (Or.inl rfl)
  have hJ1 := pJ_r (ν' := zz_setI ν 0 0 0) hJ rfl
  have hfu : zz_fuel = 5000 := rfl
  unfold f_X11_week f_X12_week
  rw [pq_letM]
  generalize zz_setI ν 0 0 0 = ν1 at *
  have fin := pI_mk hv hS hx hc (pK_c0 μ) k0.2.1 k0.1
  have es1 : pr_st ν1 = pr_st ν := hJ1.2.2.2.1
  have b1 : (1 : Int64).toInt = 1 := rfl
  have b40 : (40 : Int64).toInt = 40 := rfl
  have l1 : (1 : Int32) = nI 1 := rfl
  have l40 : (40 : Int32) = nI 40 := rfl
  rcases pi_within p2.toInt64 1 40 with ⟨g1, g2, g3⟩ | ⟨g1, g3⟩
  · rw [Int32.toInt_toInt64, b1] at g1
    rw [Int32.toInt_toInt64, b40] at g2
    obtain ⟨T, T1, T2, T3⟩ := pi_to (x := p2) (by omega)
    obtain ⟨ν2, e2, f2, q2⟩ := pr_stores ν1
    have r1 : ν2.1 1 = ν1.1 1 := (f2 1 (by simp)).1
    have hJ2 := pJ_r (ν' := ν2) hJ1 r1
    have hJ3 : pJ a 13 (zz_setI m1 0 19 p1) (zz_setI ν2 0 31 p1) (pr_st ν) := by
      obtain ⟨h1, h2, h3, h4, h5⟩ := hJ2
      have f : pq_fr [0] m1 (zz_setI m1 0 19 p1) := pq_frI (pq_fr0 m1) _ _ (by simp)
      exact ⟨pc_planF h1 f (fun j hj => by simp <;> omega), pc_standF h2 f (by simp) (by simp) (by simp), h3, h4, h5⟩
    rw [if_neg (show ¬ p2 < 1 by rw [l1, pi_nlt (by decide)]; omega), if_pos (show p2 ≤ 40 by rw [l40, pi_nle (by decide)]; omega), g3, pq_bndS, if_neg (show ¬ (1 : Int32) = 0 by decide), e1, pq_bndS, pq_letM, e2, pq_bndS, pq_letM, T1]
    obtain ⟨d', m2, ν3, st2, z1, z2, z3, z4, z5, z6, z7, z8, z9, z10, z11⟩ := pj_week hv (T := T) (by omega) T 0 0 zz_fuel (zz_setI m1 0 19 p1) (zz_setI ν2 0 31 p1) (pr_st ν) (by omega) (by omega) (Nat.le_refl _) hJ3 (by rw [qx_isE, qx_isE])
    have l0 : nI 0 = 0 := rfl
    rw [l0] at z3 z4
    rw [z3, z4]
    unfold f_X11_week_75 f_X12_week_74
    have fcA : pFc μ m2 := pFcT fc1 (pFcT (pFc19 m1 (Or.inr rfl) p1) z6)
    have frA : pFr ν ν3 := pFrT fr0 (pFrT (pFr17 f2) (pFrT (pFrI ν2 (by decide) p1) z7))
    have h66' : pc_stand m2 66 (pN a) (pF a) (pr_st ν) := by
      unfold pc_stand at h66 ⊢
      rw [z8.1, show m2.1 (66 + 1) = m2.1 67 from rfl, show m2.1 (66 + 2) = m2.1 68 from rfl, z8.2.1, z8.2.2, pz_In _ _ _ (by decide), pz_In _ _ _ (by decide), pz_In _ _ _ (by decide)]
      exact h66
    have h17 : ∀ k, k < 19 → ν3.1 17 k = pr_st ν k := fun k hk => by rw [z11, pz_In _ _ _ (by decide), q2 k hk, es1]
    by_cases c : d' = 0
    · subst c
      obtain ⟨y1, y2⟩ := z10 rfl
      rw [if_pos (show nI 0 ≤ 0 by decide)]
      have er : f_X11_remember (nI 0) m2 = some m2 := by unfold f_X11_remember; rw [if_pos (show nI 0 ≤ 0 by decide)]
      rw [er, pq_bndS]
      refine ⟨_, _, _, rfl, rfl, pj_none hv hS hc hr hx fcA frA ?_ ?_ (fun k hk => ?_)⟩
      · obtain ⟨w1, w2, w3⟩ := pj_keep13 f1 (by decide)
        exact ⟨y1.1.trans ((pz_In _ _ _ (by decide)).trans w1), y1.2.1.trans ((pz_In _ _ _ (by decide)).trans w2), y1.2.2.trans ((pz_In _ _ _ (by decide)).trans w3)⟩
      · rw [z9, qx_isN (by decide), (f1 0 (by simp)).1]
      · have := congrFun z5.2.2.2.1 k
        rw [y2] at this
        exact this
    · obtain ⟨d, rfl⟩ : ∃ d, d' = d + 1 := ⟨d' - 1, by omega⟩
      obtain ⟨μ', ν', y1, y2, y3, y4, y5, y6⟩ := pj_done hv hS hc hr hx fcA frA z5 h66' h17 d (by omega)
      rw [if_neg (nI_nle (by omega) (by omega)), y1, y2, pq_bndS, pq_bndS]
      exact ⟨_, _, _, rfl, rfl, y3⟩
  · rw [Int32.toInt_toInt64, b1, b40] at g1
    rw [g3, pq_bndS, if_pos rfl]
    by_cases c : p2 < 1
    · rw [if_pos c]; exact ⟨_, _, _, rfl, rfl, fin⟩
    · rw [if_neg c, if_neg (show ¬ p2 ≤ 40 by rw [l40, pi_nle (by decide)]; rw [l1, pi_nlt (by decide)] at c; omega)]; exact ⟨_, _, _, rfl, rfl, fin⟩
/-- trays: when one is another -/
theorem pI_tray {n : Nat} {μ ν μ' ν' : zz_Mem} {a : Nat → Int32} (hv : pv_D a) (hS : pv_S a (pr_st ν)) (hc : pI_c μ a (pr_st ν)) (hr : pI_r ν a) (hx : pI_x n μ ν a) {t : Nat} (ht : t < 4) (f : pq_fr [99 + 2 * t, 99 + 2 * t + 1] μ μ') (g : pq_fr [23, 24, 25] ν ν') (h23 : ∀ j, j ≠ t → ν'.1 23 j = ν.1 23 j ∧ ν'.1 24 j = ν.1 24 j) (h25 : ∀ j, (j < 40 * t ∨ 40 * t + 40 ≤ j) → ν'.2.1 25 j = ν.2.1 25 j) (hT : pX_tray μ' ν' t) : pI n μ' ν' := by
  have er : ν'.1 1 = ν.1 1 := (g 1 (by simp)).1
  have es : pr_st ν' = pr_st ν := by unfold pr_st; rw [er]
  have e0 : ν'.1 0 = ν.1 0 := (g 0 (by simp)).1
  obtain ⟨x1, x2, x3, x4, x5, x6⟩ := hx
  have ec : ∀ k, k < 99 ∨ 107 ≤ k → μ'.1 k = μ.1 k ∧ μ'.2.1 k = μ.2.1 k ∧ μ'.2.2 k = μ.2.2 k := fun k hk => f k (by simp <;> omega)
  refine ⟨a, hv, by rw [es]; exact hS, by rw [es]; exact pI_cF hc f (by simp <;> omega), ⟨by rw [er]; exact hr.1, pr_schedF hr.2 g (fun j a1 a2 => by simp <;> omega)⟩, ?_, fun t' ht' => ?_, fun i hi => ?_, ?_, ?_, ?_⟩
  · exact pX_pastF hv x1 (fun k k1 k2 => (ec k (by omega)).1) (fun j _ _ => by rw [er])
  · by_cases c : t' = t
    · rw [c]; exact hT
    · have := x2 t' ht'
      have q1 := f (99 + 2 * t') (by simp <;> omega)
      have q2 := f (99 + 2 * t' + 1) (by simp <;> omega)
      unfold pX_tray at this ⊢
      rw [q1.1, q2.2.1, (h23 t' c).1, (h23 t' c).2]
      rcases this with h | ⟨sz, so, a1, a2, a3, a4, a5, a6, a7⟩
      · exact Or.inl h
      · exact Or.inr ⟨sz, so, a1, a2, a3, a4, a5, a6, fun j hj => by rw [h25 _ (by omega)]; exact a7 j hj⟩
  · have := x3 i hi
    unfold pX_img pr_img at this ⊢
    rw [(ec 32 (by omega)).2.2, (g 2 (by simp)).1, er]
    rcases this with h | ⟨o, o1, o2, o3, o4, o5, o6⟩
    · exact Or.inl h
    · refine Or.inr ⟨o, o1, o2, o3, ?_, ?_, o6⟩
      · unfold pc_plan pc_law at o4 ⊢
        rw [(ec o (by omega)).1, (ec (o + 1) (by omega)).1, (ec (o + 2) (by omega)).1, (ec (o + 3) (by omega)).1, (ec (o + 4) (by omega)).1, (ec (o + 5) (by omega)).1, (ec (o + 6) (by omega)).1, (ec (o + 7) (by omega)).1, (ec (o + 8) (by omega)).1]
        exact o4
      · unfold pc_stand at o5 ⊢
        rw [(ec (o + 11) (by omega)).1, (ec (o + 11 + 1) (by omega)).1, (ec (o + 11 + 2) (by omega)).1]
        exact o5
  · obtain ⟨len, l1, l2, l3, l4⟩ := x4
    refine ⟨len, l1, by rw [(ec 0 (by omega)).1]; exact l2, by rw [e0]; exact l3, ?_⟩
    rw [(ec 1 (by omega)).1, (g 3 (by simp)).1]
    exact l4
  · rw [(ec 0 (by omega)).1, e0]; exact x5
  · unfold pX_refs at x6 ⊢; rw [(ec 30 (by omega)).2.2, (ec 32 (by omega)).2.2]; exact x6
theorem pc_fillJ {o : Nat} : ∀ (r k fuel : Nat) (m : zz_Mem), k + r = 40 → r < fuel → (∀ j, j < k → m.2.1 o j = 0) → ∃ m', f_J7_fill_d0a16_6 o fuel 0 (nI k) 40 m = some m' ∧ pq_fr [o] m m' ∧ m'.1 = m.1 ∧ ∀ j, j < 40 → m'.2.1 o j = 0 := by
  intro r
  have l : (40 : Int32) = nI 40 := rfl
  induction r with
  | zero =>
    intro k fuel m h1 h2 h3
    obtain ⟨n, rfl⟩ : ∃ n, fuel = n + 1 := ⟨fuel - 1, by omega⟩
    rw [f_J7_fill_d0a16_6, l, if_pos (nI_le (by omega) (by omega))]
    exact ⟨m, rfl, pq_fr0 m, rfl, fun j hj => h3 j (by omega)⟩
  | succ r ih =>
    intro k fuel m h1 h2 h3
    obtain ⟨n, rfl⟩ : ∃ n, fuel = n + 1 := ⟨fuel - 1, by omega⟩
    obtain ⟨m', g1, g2, g4, g3⟩ := ih (k + 1) n (zz_setJ m o k 0) (by omega) (by omega) (fun j hj => by
      by_cases c : j = k
      · rw [c, qx_jsE]
      · rw [qx_jsN c]; exact h3 j (by omega))
    rw [l] at g1 ⊢
    rw [f_J7_fill_d0a16_6, if_neg (nI_ge (by omega) (by omega)), pq_ixE (by omega) (by decide), nI_clamp (by omega), pq_letM, pq_letI, nI_1]
    exact ⟨m', g1, pq_frT (pq_frJ (pq_fr0 m) _ _ (by simp)) g2, g4, g3⟩
theorem op_numbers : zL_op37 pI := by
  intro n μ ν p1 p2 p3 ⟨a, hv, hS, hc, hr, hx⟩
  have k0 := pr_t0 hr 0 (by decide) 0
  have hfu : zz_fuel = 5000 := rfl
  unfold f_X11_numbers f_X12_numbers f_X11_noTray
  rw [pq_letM]
  have hx1 := pI_xK hx (pK_c0 μ) k0.1
  have hS1 : pv_S a (pr_st (zz_setI ν 0 0 0)) := by rw [k0.2.2]; exact hS
  have hc1 : pI_c μ a (pr_st (zz_setI ν 0 0 0)) := by rw [k0.2.2]; exact hc
  have hr1 := k0.2.1
  have fin := pI_mk hv hS hx hc (pK_c0 μ) k0.2.1 k0.1
  generalize zz_setI ν 0 0 0 = ν1 at *
  have a0 : (0 : Int64).toInt = 0 := rfl
  have a3 : (3 : Int64).toInt = 3 := rfl
  have a40 : (40 : Int64).toInt = 40 := rfl
  have l4 : (4 : Int32) = nI 4 := rfl
  have l3 : (3 : Int32) = nI 3 := rfl
  have l40 : (40 : Int32) = nI 40 := rfl
  rw [l4]
  rcases pi_within p1.toInt64 0 3 with ⟨g1, g2, g3⟩ | ⟨g1, g3⟩
  · rw [Int32.toInt_toInt64, a0] at g1
    rw [Int32.toInt_toInt64, a3] at g2
    obtain ⟨t, t1, t2, t3⟩ := pi_to (x := p1) (by omega)
    rw [g3, pq_bndS, if_neg (show ¬ (1 : Int32) = 0 by decide), if_neg (by rw [pi_neg]; omega), if_pos (show p1 < nI 4 by rw [pi_nlt (by decide)]; omega), pq_bndS, if_pos rfl]
    rcases pi_within p2.toInt64 0 3 with ⟨h1, h2, h3⟩ | ⟨h1, h3⟩
    · rw [Int32.toInt_toInt64, a0] at h1
      rw [Int32.toInt_toInt64, a3] at h2
      obtain ⟨so, s1, s2, s3⟩ := pi_to (x := p2) (by omega)
      rw [h3, pq_bndS, if_neg (show ¬ (1 : Int32) = 0 by decide), if_neg (show ¬ p2 < 0 by rw [pi_neg]; omega), if_pos (show p2 ≤ 3 by rw [l3, pi_nle (by decide)]; omega)]
      rcases pi_within p3.toInt64 0 40 with ⟨q1, q2, q3⟩ | ⟨q1, q3⟩
      · rw [Int32.toInt_toInt64, a0] at q1
        rw [Int32.toInt_toInt64, a40] at q2
        obtain ⟨sz, z1, z2, z3⟩ := pi_to (x := p3) (by omega)
        rw [q3, pq_bndS, if_neg (show ¬ (1 : Int32) = 0 by decide), if_neg (show ¬ p3 < 0 by rw [pi_neg]; omega), if_pos (show p3 ≤ 40 by rw [l40, pi_nle (by decide)]; omega), t1, z1, s1]
        simp (disch := omega) only [qx_ix, qx_cl]
        rw [pq_letM, pq_letM]
        unfold f_X10_renew f_J7_fill_d0a16
        rw [pq_letM, pq_letM]
        obtain ⟨m3, y1, y2, y4, y3⟩ := pc_fillJ (o := 99 + 2 * t + 1) 40 0 zz_fuel (zz_setI (zz_setI μ (99 + 2 * t) 1 (nI so)) (99 + 2 * t) 2 (nI sz)) (by omega) (by omega) (fun j hj => absurd hj (Nat.not_lt_zero _))
        rw [nI_0] at y1
        rw [y1, pq_bndS, pq_bndS]
        have loop : ∀ (r k fuel : Nat) (m : zz_Mem), k + r = sz → r < fuel → pq_fr [25] (zz_setI (zz_setI ν1 23 t (nI so)) 24 t (nI sz)) m → (∀ j, j < k → m.2.1 25 (40 * t + j) = 0) → (∀ j, (j < 40 * t ∨ 40 * t + 40 ≤ j) → m.2.1 25 j = ν1.2.1 25 j) → ∃ m', f_X12_numbers_64 fuel (nI t) (nI sz) (nI k) m = some (0, m') ∧ pq_fr [25] (zz_setI (zz_setI ν1 23 t (nI so)) 24 t (nI sz)) m' ∧ (∀ j, j < sz → m'.2.1 25 (40 * t + j) = 0) ∧ ∀ j, (j < 40 * t ∨ 40 * t + 40 ≤ j) → m'.2.1 25 j = ν1.2.1 25 j := by
          intro r
          induction r with
          | zero =>
            intro k fuel m e1 e2 f e3 e4
            obtain ⟨fu, rfl⟩ : ∃ n, fuel = n + 1 := ⟨fuel - 1, by omega⟩
            rw [f_X12_numbers_64, if_pos (nI_le (by omega) (by omega))]
            exact ⟨m, rfl, f, fun j hj => e3 j (by omega), e4⟩
          | succ r ih =>
            intro k fuel m e1 e2 f e3 e4
            obtain ⟨fu, rfl⟩ : ∃ n, fuel = n + 1 := ⟨fuel - 1, by omega⟩
            rw [f_X12_numbers_64, if_neg (nI_ge (by omega) (by omega)), l40, pk_mul, nI_add, pq_ixE (by omega) (by decide), nI_clamp (by omega), pq_letM, pq_letI, nI_1]
            exact ih (k + 1) fu _ (by omega) (by omega) (pq_frJ f _ _ (by simp)) (fun j hj => by
              by_cases c : j = k
              · rw [c, qx_jsE]
              · rw [qx_jsN (by omega)]; exact e3 j (by omega)) (fun j hj => by rw [qx_jsN (by omega)]; exact e4 j hj)
        obtain ⟨ν3, x1, x2, x3, x4⟩ := loop sz 0 zz_fuel (zz_setI (zz_setI ν1 23 t (nI so)) 24 t (nI sz)) (by omega) (by omega) (pq_fr0 _) (fun j hj => absurd hj (Nat.not_lt_zero _)) (fun _ _ => rfl)
        rw [nI_0] at x1
        rw [x1]
        have fz : pq_fr [99 + 2 * t, 99 + 2 * t + 1] μ m3 := pq_frT (pq_frI (pq_frI (pq_fr0 μ) _ _ (by simp)) _ _ (by simp)) (pq_frW y2 (by simp))
        have gz : pq_fr [23, 24, 25] ν1 ν3 := pq_frT (pq_frI (pq_frI (pq_fr0 ν1) _ _ (by simp)) _ _ (by simp)) (pq_frW x2 (by simp))
        have w23 : ∀ j, ν3.1 23 j = (zz_setI ν1 23 t (nI so)).1 23 j := fun j => by rw [(x2 23 (by simp)).1, pz_In _ _ _ (by decide)]
        have w24 : ∀ j, ν3.1 24 j = (zz_setI (zz_setI ν1 23 t (nI so)) 24 t (nI sz)).1 24 j := fun j => by rw [(x2 24 (by simp)).1]
        refine ⟨_, _, _, rfl, rfl, pI_tray hv hS1 hc1 hr1 hx1 (show t < 4 by omega) fz gz (fun j hj => ⟨by rw [w23, qx_isN hj], by rw [w24, qx_isN hj, pz_In _ _ _ (by decide)]⟩) x4 (Or.inr ⟨sz, so, by omega, by omega, ?_, ?_, ?_, ?_, fun j hj => ?_⟩)⟩
        · rw [y4, qx_isE]
        · rw [w24, qx_isE]
        · rw [y4, qx_isN (by decide), qx_isE]
        · rw [w23, qx_isE]
        · rw [y3 j (by omega), x3 j hj]
      · rw [Int32.toInt_toInt64, a0, a40] at q1
        rw [q3, pq_bndS, if_pos rfl]
        by_cases c : p3 < 0
        · rw [if_pos c]; exact ⟨_, _, _, rfl, rfl, fin⟩
        · rw [if_neg c]; rw [pi_neg] at c; rw [if_neg (show ¬ p3 ≤ 40 by rw [l40, pi_nle (by decide)]; omega)]; exact ⟨_, _, _, rfl, rfl, fin⟩
    · rw [Int32.toInt_toInt64, a0, a3] at h1
      rw [h3, pq_bndS, if_pos rfl]
      by_cases c : p2 < 0
      · rw [if_pos c]; exact ⟨_, _, _, rfl, rfl, fin⟩
      · rw [if_neg c]; rw [pi_neg] at c; rw [if_neg (show ¬ p2 ≤ 3 by rw [l3, pi_nle (by decide)]; omega)]; exact ⟨_, _, _, rfl, rfl, fin⟩
  · rw [Int32.toInt_toInt64, a0, a3] at g1
    rw [g3, pq_bndS, if_pos rfl]
    by_cases c : p1 < 0
    · rw [if_pos c, pq_bndS, if_neg (show ¬ (1 : Int32) = 0 by decide)]; exact ⟨_, _, _, rfl, rfl, fin⟩
    · rw [if_neg c]; rw [pi_neg] at c; rw [if_neg (show ¬ p1 < nI 4 by rw [pi_nlt (by decide)]; omega), pq_bndS, if_neg (show ¬ (1 : Int32) = 0 by decide)]; exact ⟨_, _, _, rfl, rfl, fin⟩
