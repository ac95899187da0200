/-! ===== 66: calls that ask: the desk, days, the curve ===== -/
theorem pi_cT {m m' : zz_Mem} {a st : Nat → Int32} (h : pI_c m a st) (f : pq_fr [11, 12, 82] m m') (hk : pc_known m' a) : pI_c m' a st ∧ pK_c m m' := by
  obtain ⟨h1, h2, h3, h4, h5, h6, h7⟩ := h
  refine ⟨⟨pc_planF h1 f (fun j hj => by simp <;> omega), pc_standF h2 f (by simp) (by simp) (by simp), hk, pc_schedF h4 f (fun j a1 a2 => by simp <;> omega), ?_, ?_, ?_⟩, pK_cF f (by simp <;> omega)⟩
  · unfold pc_fb; rw [(f (83 + 2) (by simp)).1]; exact h5
  · unfold pc_fb; rw [(f (88 + 2) (by simp)).1]; exact h6
  · unfold pc_now pc_cv pc_cnt; rw [(f 0 (by simp)).1, (f (83 + 1) (by simp)).1, (f (83 + 2) (by simp)).1]; exact h7
theorem pi_rT {m m' : zz_Mem} {a : Nat → Int32} (h : pI_r m a) (f : pq_fr [5, 6] m m') : pI_r m' a ∧ pK_r m m' ∧ pr_st m' = pr_st m := by
  refine ⟨⟨by rw [(f 1 (by simp)).1]; exact h.1, pr_schedF h.2 f (fun j a1 a2 => by simp <;> omega)⟩, pK_rF f (by simp) (by rw [(f 0 (by simp)).1]) (by rw [(f 0 (by simp)).1]) (by rw [(f 0 (by simp)).1]), ?_⟩
  unfold pr_st; rw [(f 1 (by simp)).1]
theorem op_fault : zL_op2 pI := by
  intro n μ ν p1 ⟨a, hv, hS, hc, hr, hx⟩
  obtain ⟨k0, r0, s0⟩ := pr_t0 hr 0 (by decide) 0
  unfold f_X11_fault f_X12_fault
  rw [pq_letM]
  generalize zz_setI ν 0 0 0 = ν1 at *
  have fin : pI n μ ν1 := pI_mk hv hS hx hc (pK_c0 μ) r0 k0
  obtain ⟨x1, x2⟩ := hx.2.2.2.2.1
  by_cases c0 : p1 = 0
  · rw [if_pos c0, if_pos c0]; exact ⟨_, ν1, rfl, by rw [k0.2.2.2.1, x1], fin⟩
  · rw [if_neg c0, if_neg c0]
    by_cases c1 : p1 = 1
    · rw [if_pos c1, if_pos c1]; exact ⟨_, ν1, rfl, by rw [k0.2.2.2.2, x2], fin⟩
    · rw [if_neg c1, if_neg c1]; exact ⟨_, ν1, rfl, rfl, fin⟩
theorem op_open : zL_op5 pI := by
  intro n μ ν p1 ⟨a, hv, hS, hc, hr, hx⟩
  obtain ⟨k0, r0, s0⟩ := pr_t0 hr 0 (by decide) 0
  unfold f_X11_open f_X12_open
  rw [pq_letM]
  generalize zz_setI ν 0 0 0 = ν1 at *
  have l : (9999 : Int32) = nI 9999 := rfl
  rw [l]
  rcases pi_isDay p1 (N := 9999) (by decide) with ⟨j, j1, j2, j3, j4, j5⟩ | ⟨j1, j2⟩
  · rw [j5, pq_bndS, if_neg (show ¬ (1 : Int32) = 0 by decide), if_neg j3, if_pos j4, j2]
    obtain ⟨μ1, e1, f1, g1⟩ := pc_open (d := j) (by omega) hv hc.1 hc.2.2.1
    obtain ⟨ν2, e2, f2⟩ := pr_open (d := j) r0.1 hv (by omega)
    rw [e1, e2, pq_bnd2, pq_bnd2]
    obtain ⟨t1, t2⟩ := pi_cT hc f1 g1
    obtain ⟨u1, u2, u3⟩ := pi_rT r0 f2
    have fin := pI_mk hv hS hx t1 t2 u1 (pK_rT k0 u2)
    by_cases c : pd_b (pd_open a j) = 0
    · rw [if_pos c, if_pos c]; exact ⟨_, _, _, rfl, rfl, fin⟩
    · rw [if_neg c, if_neg c]; exact ⟨_, _, _, rfl, rfl, fin⟩
  · rw [j2, pq_bndS, if_pos rfl]
    have fin := pI_mk hv hS hx hc (pK_c0 μ) r0 k0
    rcases j1 with c | ⟨c, c2⟩
    · rw [if_pos c]; exact ⟨_, _, _, rfl, rfl, fin⟩
    · rw [if_neg c, if_neg c2]; exact ⟨_, _, _, rfl, rfl, fin⟩
theorem op_off : zL_op6 pI := by
  intro n μ ν p1 ⟨a, hv, hS, hc, hr, hx⟩
  obtain ⟨k0, r0, s0⟩ := pr_t0 hr 0 (by decide) 0
  unfold f_X11_off f_X12_off
  rw [pq_letM]
  generalize zz_setI ν 0 0 0 = ν1 at *
  have l : (9999 : Int32) = nI 9999 := rfl
  rw [l]
  rcases pi_isDay p1 (N := 9999) (by decide) with ⟨j, j1, j2, j3, j4, j5⟩ | ⟨j1, j2⟩
  · rw [j5, pq_bndS, if_neg (show ¬ (1 : Int32) = 0 by decide), if_neg j3, if_pos j4, j2]
    obtain ⟨μ1, e1, f1, g1⟩ := pc_putOff (d := j) (by omega) hv hc.1 hc.2.2.1
    obtain ⟨ν2, e2, f2⟩ := pr_off (d := j) r0.1 hv (by omega)
    rw [e1, e2, pq_bnd2, pq_bnd2]
    obtain ⟨t1, t2⟩ := pi_cT hc f1 g1
    obtain ⟨u1, u2, u3⟩ := pi_rT r0 f2
    exact ⟨_, _, _, rfl, rfl, pI_mk hv hS hx t1 t2 u1 (pK_rT k0 u2)⟩
  · rw [j2, pq_bndS, if_pos rfl]
    have fin := pI_mk hv hS hx hc (pK_c0 μ) r0 k0
    rcases j1 with c | ⟨c, c2⟩
    · rw [if_pos c]; exact ⟨_, _, _, rfl, rfl, fin⟩
    · rw [if_neg c, if_neg c2]; exact ⟨_, _, _, rfl, rfl, fin⟩
theorem op_opens : zL_op7 pI := by
  intro n μ ν p1 p2 ⟨a, hv, hS, hc, hr, hx⟩
  obtain ⟨k0, r0, s0⟩ := pr_t0 hr 0 (by decide) 0
  unfold f_X11_opens f_X12_opens
  rw [pq_letM]
  generalize zz_setI ν 0 0 0 = ν1 at *
  have l : (999 : Int32) = nI 999 := rfl
  have hfu : zz_fuel = 5000 := rfl
  have fin := pI_mk hv hS hx hc (pK_c0 μ) r0 k0
  have key : ∀ (r d b acc fuel : Nat) (μ1 ν2 : zz_Mem), d + r = b → b ≤ 999 → r < fuel → pI_c μ1 a (pr_st ν) → pI_r ν2 a → ∃ x μ' ν', f_X11_opens_31 fuel (nI b) (nI acc) (nI d) μ1 = some (x, μ') ∧ f_X12_opens_36 fuel (nI b) (nI acc) (nI d) ν2 = some (x, ν') ∧ pI_c μ' a (pr_st ν) ∧ pK_c μ1 μ' ∧ pI_r ν' a ∧ pK_r ν2 ν' := by
    intro r
    induction r with
    | zero =>
      intro d b acc fuel μ1 ν2 h1 h2 h3 hc1 hr1
      obtain ⟨fu, rfl⟩ : ∃ n, fuel = n + 1 := ⟨fuel - 1, by omega⟩
      have e : d = b := by omega
      subst e
      rw [f_X11_opens_31, f_X12_opens_36, if_pos (Int32.le_refl _), if_pos (Int32.le_refl _)]
      exact ⟨_, _, _, rfl, rfl, hc1, pK_c0 _, hr1, pK_r0 _⟩
    | succ r ih =>
      intro d b acc fuel μ1 ν2 h1 h2 h3 hc1 hr1
      obtain ⟨fu, rfl⟩ : ∃ n, fuel = n + 1 := ⟨fuel - 1, by omega⟩
      obtain ⟨μ2, e1, f1, g1⟩ := pc_open (d := d) (by omega) hv hc1.1 hc1.2.2.1
      obtain ⟨ν3, e2, f2⟩ := pr_open (d := d) hr1.1 hv (by omega)
      obtain ⟨t1, t2⟩ := pi_cT hc1 f1 g1
      obtain ⟨u1, u2, u3⟩ := pi_rT hr1 f2
      rw [f_X11_opens_31, f_X12_opens_36, if_neg (nI_ge (by omega) (by omega)), if_neg (nI_ge (by omega) (by omega)), e1, e2, pq_bnd2, pq_bnd2]
      cases pd_open a d with
      | false =>
        rw [if_pos (show pd_b false = 0 from rfl), if_pos (show pd_b false = 0 from rfl)]
        unfold f_X12_opens_57
        have l0 : (0 : Int32) = nI 0 := rfl
        rw [pq_letI, pq_letI, pq_letI, l0, nI_add, Nat.add_zero, nI_1]
        obtain ⟨x, μ', ν', z1, z2, z3, z4, z5, z6⟩ := ih (d + 1) b acc fu μ2 ν3 (by omega) h2 (by omega) t1 u1
        exact ⟨x, μ', ν', z1, z2, z3, pK_cT t2 z4, z5, pK_rT u2 z6⟩
      | true =>
        rw [if_neg (by decide), if_neg (by decide)]
        unfold f_X12_opens_57
        rw [pq_letI, pq_letI, pq_letI, pq_letI, nI_1, nI_1]
        obtain ⟨x, μ', ν', z1, z2, z3, z4, z5, z6⟩ := ih (d + 1) b (acc + 1) fu μ2 ν3 (by omega) h2 (by omega) t1 u1
        exact ⟨x, μ', ν', z1, z2, z3, pK_cT t2 z4, z5, pK_rT u2 z6⟩
  rw [l]
  rcases pi_isDay p1 (N := 999) (by decide) with ⟨j, j1, j2, j3, j4, j5⟩ | ⟨j1, j2⟩
  · have e9 : (999 : Int64).toInt = 999 := rfl
    have n1 : ¬ nI 999 < p1 := by rw [pi_nlt' (by decide)]; rw [pi_nle (by decide)] at j4; omega
    rw [j5, pq_bndS, if_neg (show ¬ (1 : Int32) = 0 by decide), if_neg j3, if_neg n1]
    rcases pi_within p2.toInt64 p1.toInt64 999 with ⟨h1, h2, h3⟩ | ⟨h1, h3⟩
    · rw [Int32.toInt_toInt64, Int32.toInt_toInt64] at h1
      rw [Int32.toInt_toInt64, e9] at h2
      subst j2
      rw [nI_toInt (by omega)] at h1
      obtain ⟨b, b1, b2, b3⟩ := pi_to (x := p2) (by omega)
      rw [h3, pq_bndS, if_neg (show ¬ (1 : Int32) = 0 by decide), if_neg (show ¬ p2 < nI j by rw [pi_nlt (by omega)]; omega), if_pos (show p2 ≤ nI 999 by rw [pi_nle (by omega)]; omega), b1]
      obtain ⟨x, μ', ν', z1, z2, z3, z4, z5, z6⟩ := key (b - j) j b 0 zz_fuel μ ν1 (by omega) (by omega) (by omega) hc r0
      rw [nI_0] at z1 z2
      exact ⟨x, μ', ν', z1, z2, pI_mk hv hS hx z3 z4 z5 (pK_rT k0 z6)⟩
    · rw [Int32.toInt_toInt64, Int32.toInt_toInt64, e9] at h1
      rw [h3, pq_bndS, if_pos rfl]
      by_cases c : p2 < p1
      · rw [if_pos c]; exact ⟨_, _, _, rfl, rfl, fin⟩
      · rw [if_neg c, if_neg (show ¬ p2 ≤ nI 999 by rw [pi_nle (by decide)]; rw [Int32.lt_iff_toInt_lt] at c; omega)]
        exact ⟨_, _, _, rfl, rfl, fin⟩
  · rw [j2, pq_bndS, if_pos rfl]
    rcases j1 with c | ⟨c, c2⟩
    · rw [if_pos c]; exact ⟨_, _, _, rfl, rfl, fin⟩
    · rw [if_neg c, if_pos (show nI 999 < p1 by rw [pi_nlt' (by decide)]; rw [pi_nle (by decide)] at c2; omega)]; exact ⟨_, _, _, rfl, rfl, fin⟩
theorem op_business : zL_op8 pI := by
  intro n μ ν p1 p2 ⟨a, hv, hS, hc, hr, hx⟩
  obtain ⟨k0, r0, s0⟩ := pr_t0 hr 0 (by decide) 0
  unfold f_X11_business f_X12_business
  rw [pq_letM]
  generalize zz_setI ν 0 0 0 = ν1 at *
  have l : (999 : Int32) = nI 999 := rfl
  have hfu : zz_fuel = 5000 := rfl
  have fin := pI_mk hv hS hx hc (pK_c0 μ) r0 k0
  have key : ∀ (r k d b acc fuel : Nat) (μ1 ν2 : zz_Mem), k + r = 1000 → 1 ≤ k → d ≤ 999 → acc < b → b ≤ 99 → r < fuel → pI_c μ1 a (pr_st ν) → pI_r ν2 a → ∃ x μ' ν', f_X11_business_30 fuel (nI d) (nI b) (nI acc) (nI k) μ1 = some (x, μ') ∧ f_X12_business_35 fuel (nI d) (nI (b - acc)) (nI k) ν2 = some (x, ν') ∧ pI_c μ' a (pr_st ν) ∧ pK_c μ1 μ' ∧ pI_r ν' a ∧ pK_r ν2 ν' := by
    intro r
    induction r with
    | zero =>
      intro k d b acc fuel μ1 ν2 h1 h2 h3 h4 h5 h6 hc1 hr1
      obtain ⟨fu, rfl⟩ : ∃ n, fuel = n + 1 := ⟨fuel - 1, by omega⟩
      rw [f_X11_business_30, f_X12_business_35, l, if_pos (nI_lt (by omega) (by omega)), if_pos (nI_lt (by omega) (by omega))]
      exact ⟨_, _, _, rfl, rfl, hc1, pK_c0 _, hr1, pK_r0 _⟩
    | succ r ih =>
      intro k d b acc fuel μ1 ν2 h1 h2 h3 h4 h5 h6 hc1 hr1
      obtain ⟨fu, rfl⟩ : ∃ n, fuel = n + 1 := ⟨fuel - 1, by omega⟩
      obtain ⟨μ2, e1, f1, g1⟩ := pc_open (d := d + k) (by omega) hv hc1.1 hc1.2.2.1
      obtain ⟨ν3, e2, f2⟩ := pr_open (d := d + k) hr1.1 hv (by omega)
      obtain ⟨t1, t2⟩ := pi_cT hc1 f1 g1
      obtain ⟨u1, u2, u3⟩ := pi_rT hr1 f2
      have l0 : (0 : Int32) = nI 0 := rfl
      have l1 : (1 : Int32) = nI 1 := rfl
      rw [f_X11_business_30, f_X12_business_35, l, if_neg (nI_nlt (by omega) (by omega)), if_neg (nI_nlt (by omega) (by omega)), nI_add, e1, e2, pq_bnd2, pq_bnd2]
      cases pd_open a (d + k) with
      | false =>
        rw [if_pos (show pd_b false = 0 from rfl), if_pos (show pd_b false = 0 from rfl)]
        unfold f_X11_business_58 f_X12_business_60
        rw [pq_letI, pq_letI, pq_letI, if_neg (show ¬ nI acc = nI b by rw [nI_eq (by omega) (by omega)]; omega), l0, pk_sub (Nat.zero_le _), Nat.sub_zero, if_neg (show ¬ nI (b - acc) = nI 0 by rw [nI_eq (by omega) (by omega)]; omega), nI_1]
        obtain ⟨x, μ', ν', z1, z2, z3, z4, z5, z6⟩ := ih (k + 1) d b acc fu μ2 ν3 (by omega) (by omega) h3 h4 h5 (by omega) t1 u1
        exact ⟨x, μ', ν', z1, z2, z3, pK_cT t2 z4, z5, pK_rT u2 z6⟩
      | true =>
        rw [if_neg (by decide), if_neg (by decide)]
        unfold f_X11_business_58 f_X12_business_60
        rw [pq_letI, pq_letI, pq_letI, pq_letI, nI_1, l1, pk_sub (by omega), l0]
        by_cases e : acc + 1 = b
        · rw [if_pos (by rw [e]), if_pos (by rw [show b - acc - 1 = 0 by omega]), nI_add]
          exact ⟨_, _, _, rfl, rfl, t1, t2, u1, u2⟩
        · rw [if_neg (show ¬ nI (acc + 1) = nI b by rw [nI_eq (by omega) (by omega)]; exact e), if_neg (show ¬ nI (b - acc - 1) = nI 0 by rw [nI_eq (by omega) (by omega)]; omega), nI_add, show b - acc - 1 = b - (acc + 1) by omega]
          obtain ⟨x, μ', ν', z1, z2, z3, z4, z5, z6⟩ := ih (k + 1) d b (acc + 1) fu μ2 ν3 (by omega) (by omega) h3 (by omega) h5 (by omega) t1 u1
          exact ⟨x, μ', ν', z1, z2, z3, pK_cT t2 z4, z5, pK_rT u2 z6⟩
  rw [l]
  rcases pi_isDay p1 (N := 999) (by decide) with ⟨j, j1, j2, j3, j4, j5⟩ | ⟨j1, j2⟩
  · have e9 : (99 : Int64).toInt = 99 := rfl
    have e1 : (1 : Int64).toInt = 1 := rfl
    have l1 : (1 : Int32) = nI 1 := rfl
    have l99 : (99 : Int32) = nI 99 := rfl
    have n1 : ¬ nI 999 < p1 := by rw [pi_nlt' (by decide)]; rw [pi_nle (by decide)] at j4; omega
    rw [j5, pq_bndS, if_neg (show ¬ (1 : Int32) = 0 by decide), if_neg j3, if_neg n1, l99]
    rcases pi_within p2.toInt64 1 99 with ⟨h1, h2, h3⟩ | ⟨h1, h3⟩
    · rw [Int32.toInt_toInt64, e1] at h1
      rw [Int32.toInt_toInt64, e9] at h2
      obtain ⟨b, b1, b2, b3⟩ := pi_to (x := p2) (by omega)
      rw [h3, pq_bndS, if_neg (show ¬ (1 : Int32) = 0 by decide), if_neg (show ¬ p2 < 1 by rw [l1, pi_nlt (by omega)]; omega), if_pos (show p2 ≤ nI 99 by rw [pi_nle (by omega)]; omega), b1, j2]
      obtain ⟨x, μ', ν', z1, z2, z3, z4, z5, z6⟩ := key 999 1 j b 0 zz_fuel μ ν1 (by omega) (by omega) j1 (by omega) (by omega) (by omega) hc r0
      rw [nI_0] at z1
      rw [Nat.sub_zero] at z2
      exact ⟨x, μ', ν', z1, z2, pI_mk hv hS hx z3 z4 z5 (pK_rT k0 z6)⟩
    · rw [Int32.toInt_toInt64, e1, e9] at h1
      rw [h3, pq_bndS, if_pos rfl]
      by_cases c : p2 < 1
      · rw [if_pos c]; exact ⟨_, _, _, rfl, rfl, fin⟩
      · rw [if_neg c, if_neg (show ¬ p2 ≤ nI 99 by rw [pi_nle (by decide)]; rw [l1, pi_nlt (by decide)] at c; omega)]
        exact ⟨_, _, _, rfl, rfl, fin⟩
  · rw [j2, pq_bndS, if_pos rfl]
    rcases j1 with c | ⟨c, c2⟩
    · rw [if_pos c]; exact ⟨_, _, _, rfl, rfl, fin⟩
    · rw [if_neg c, if_pos (show nI 999 < p1 by rw [pi_nlt' (by decide)]; rw [pi_nle (by decide)] at c2; omega)]; exact ⟨_, _, _, rfl, rfl, fin⟩
theorem op_period : zL_op9 pI := by
  intro n μ ν p1 p2 ⟨a, hv, hS, hc, hr, hx⟩
  obtain ⟨k0, r0, s0⟩ := pr_t0 hr 0 (by decide) 0
  unfold f_X11_period f_X12_period
  rw [pq_letM]
  generalize zz_setI ν 0 0 0 = ν1 at *
  have fin := pI_mk hv hS hx hc (pK_c0 μ) r0 k0
  rcases pi_input hv hc.1 r0 p1 with ⟨i, i1, i2, i3, i4, i5⟩ | ⟨i4, i5⟩
  · have hin := pv_inD hv i1
    have l24 : (24 : Int32) = nI 24 := rfl
    have l2 : (2 : Int32) = nI 2 := rfl
    have e4 : μ.1 4 i = nI (pK a i) := (hc.1.2.2.2.2.2.2.2.1 i i1).1.trans hin.1.1
    have e24 : ν1.1 1 (24 + i) = nI (pK a i) := (r0.1 _ (by omega)).trans hin.1.1
    have b24 : pK a i ≤ 2 := hin.1.2
    have h34 := pM_b hin
    rw [i4, i5, pq_bndS, pq_bndS, if_neg (show ¬ (1 : Int32) = 0 by decide), if_neg (show ¬ (1 : Int32) = 0 by decide), i3, l24, nI_add]
    simp (disch := omega) only [qx_ix, qx_cl, e4, e24]
    by_cases c : nI (pK a i) = 2
    · rw [if_pos c, if_pos c]
      by_cases c2 : 0 ≤ p2
      · have e0 : (0 : Int32).toInt = 0 := rfl
        have c2' := c2
        rw [Int32.le_iff_toInt_le, e0] at c2'
        obtain ⟨k, k1, k2, k3⟩ := pi_to (x := p2) c2'
        rw [if_pos c2, if_pos c2, (hc.2.2.2.1.1 i i1).2.2.1, (r0.2.1 i i1).2.2.1, k1]
        by_cases c3 : pM a i ≤ k
        · rw [if_pos (nI_le c3 (by omega)), if_pos (nI_le c3 (by omega))]; exact ⟨_, _, rfl, rfl, fin⟩
        · rw [if_neg (nI_ge (by omega) (by omega)), if_neg (nI_ge (by omega) (by omega)), pc_pend hv hc.2.2.2.1 i1 (by omega), pr_end hv r0.2 i1 (by omega), pq_bndS, pq_bndS]
          exact ⟨_, _, rfl, rfl, fin⟩
      · rw [if_neg c2, if_neg c2]; exact ⟨_, _, rfl, rfl, fin⟩
    · rw [if_neg c, if_neg c]; exact ⟨_, _, rfl, rfl, fin⟩
  · rw [i4, i5, pq_bndS, pq_bndS, if_pos rfl, if_pos rfl]; exact ⟨_, _, rfl, rfl, fin⟩
theorem op_flow : zL_op4 pI := by
  intro n μ ν p1 p2 ⟨a, hv, hS, hc, hr, hx⟩
  obtain ⟨k0, r0, s0⟩ := pr_t0 hr 0 (by decide) 0
  unfold f_X11_flow f_X12_flow
  rw [pq_letM]
  generalize zz_setI ν 0 0 0 = ν1 at *
  have fin := pI_mk hv hS hx hc (pK_c0 μ) r0 k0
  rcases pi_flow hv hc.1 r0 p1 with ⟨i, i1, i2, i3, i4, i5⟩ | ⟨i4, i5⟩
  · have hd := pFl_b hv i1
    have l56 : (56 : Int32) = nI 56 := rfl
    have l75 : (75 : Int32) = nI 75 := rfl
    have l1 : (1 : Int32) = nI 1 := rfl
    have e8 : μ.1 8 i = nI (pv_n a (56 + i)) := (hc.1.2.2.2.2.2.2.2.2.1 i i1).trans hd.1
    have e56 : ν1.1 1 (56 + i) = nI (pv_n a (56 + i)) := (r0.1 _ (by omega)).trans hd.1
    have e15 : μ.1 15 i = pr_st ν (9 + i) := hc.2.1.2.2 i i1
    have e75 : ν1.1 1 (75 + i) = pr_st ν (9 + i) := by rw [← s0]; unfold pr_st; rw [← Nat.add_assoc]
    rw [i4, i5, pq_bndS, pq_bndS, if_neg (show ¬ (1 : Int32) = 0 by decide), if_neg (show ¬ (1 : Int32) = 0 by decide), i3]
    by_cases c0 : p2 = 0
    · subst c0
      rw [if_neg (show ¬ (0 : Int32) < 0 by decide), if_pos (show (0 : Int32) ≤ 1 by decide), if_pos rfl, if_pos rfl, l56, nI_add]
      simp (disch := omega) only [qx_ix, qx_cl, e8, e56]
      exact ⟨_, _, rfl, rfl, fin⟩
    · by_cases c1 : p2 = 1
      · subst c1
        rw [if_neg (show ¬ (1 : Int32) < 0 by decide), if_pos (show (1 : Int32) ≤ 1 by decide)]
        simp only [if_neg c0, if_true]
        rw [l75, nI_add]
        simp (disch := omega) only [qx_ix, qx_cl, e15, e75]
        exact ⟨_, _, rfl, rfl, fin⟩
      · simp only [if_neg c0, if_neg c1]
        by_cases c2 : p2 < 0
        · rw [if_pos c2]; exact ⟨_, _, rfl, rfl, fin⟩
        · have c3 : ¬ p2 ≤ 1 := by
            intro z
            rw [l1, pi_nle (by decide)] at z
            rw [pi_neg] at c2
            have : p2.toInt = 0 ∨ p2.toInt = 1 := by omega
            rcases this with h | h
            · exact c0 (Int32.toInt_inj.mp h)
            · exact c1 (Int32.toInt_inj.mp h)
          rw [if_neg c2, if_neg c3]; exact ⟨_, _, rfl, rfl, fin⟩
  · rw [i4, i5, pq_bndS, pq_bndS, if_pos rfl, if_pos rfl]; exact ⟨_, _, rfl, rfl, fin⟩
theorem op_input : zL_op3 pI := by
  intro n μ ν p1 p2 ⟨a, hv, hS, hc, hr, hx⟩
  obtain ⟨k0, r0, s0⟩ := pr_t0 hr 0 (by decide) 0
  unfold f_X11_input f_X12_input
  rw [pq_letM]
  generalize zz_setI ν 0 0 0 = ν1 at *
  have fin := pI_mk hv hS hx hc (pK_c0 μ) r0 k0
  rcases pi_input hv hc.1 r0 p1 with ⟨i, i1, i2, i3, i4, i5⟩ | ⟨i4, i5⟩
  · have hin := pv_inD hv i1
    have hpi := hc.1.2.2.2.2.2.2.2.1 i i1
    have q4 : μ.1 4 i = a (24 + i) := hpi.1
    have q5 : μ.1 5 i = a (32 + i) := hpi.2.1
    have q6 : μ.1 6 i = a (40 + i) := hpi.2.2.1
    have q7 : μ.1 7 i = a (48 + i) := hpi.2.2.2
    have q14 : μ.1 14 i = pr_st ν i := hc.2.1.2.1 i i1
    have w24 : ν1.1 1 (24 + i) = a (24 + i) := r0.1 _ (by omega)
    have w32 : ν1.1 1 (32 + i) = a (32 + i) := r0.1 _ (by omega)
    have w40 : ν1.1 1 (40 + i) = a (40 + i) := r0.1 _ (by omega)
    have w48 : ν1.1 1 (48 + i) = a (48 + i) := r0.1 _ (by omega)
    have w66 : ν1.1 1 (66 + i) = pr_st ν i := by rw [← s0]; rfl
    have w74 : ν1.1 1 74 = pr_st ν 8 := by rw [← s0]; rfl
    obtain ⟨g1, g2, -⟩ := hc.2.2.2.1.1 i i1
    obtain ⟨g3, g4, -⟩ := r0.2.1 i i1
    have lits : (24 : Int32) = nI 24 ∧ (32 : Int32) = nI 32 ∧ (40 : Int32) = nI 40 ∧ (48 : Int32) = nI 48 ∧ (66 : Int32) = nI 66 := ⟨rfl, rfl, rfl, rfl, rfl⟩
    rw [i4, i5, pq_bndS, pq_bndS, if_neg (show ¬ (1 : Int32) = 0 by decide), if_neg (show ¬ (1 : Int32) = 0 by decide), i3]
    by_cases c0 : p2 = 0
    · rw [if_pos c0, if_pos c0, lits.1]
      simp (disch := omega) only [nI_add, qx_ix, qx_cl, q4, w24]
      exact ⟨_, _, _, rfl, rfl, fin⟩
    rw [if_neg c0, if_neg c0]
    by_cases c1 : p2 = 1
    · rw [if_pos c1, if_pos c1, lits.2.1]
      simp (disch := omega) only [nI_add, qx_ix, qx_cl, q5, w32]
      exact ⟨_, _, _, rfl, rfl, fin⟩
    rw [if_neg c1, if_neg c1]
    by_cases c2 : p2 = 2
    · rw [if_pos c2, if_pos c2, lits.2.2.1]
      simp (disch := omega) only [nI_add, qx_ix, qx_cl, q6, w40]
      exact ⟨_, _, _, rfl, rfl, fin⟩
    rw [if_neg c2, if_neg c2]
    by_cases c3 : p2 = 3
    · rw [if_pos c3, if_pos c3]
      simp (disch := omega) only [nI_add, qx_ix, qx_cl, g1, g3]
      exact ⟨_, _, _, rfl, rfl, fin⟩
    rw [if_neg c3, if_neg c3]
    by_cases c4 : p2 = 4
    · rw [if_pos c4, if_pos c4]
      simp (disch := omega) only [nI_add, qx_ix, qx_cl, g2, g4]
      exact ⟨_, _, _, rfl, rfl, fin⟩
    rw [if_neg c4, if_neg c4]
    by_cases c5 : p2 = 5
    · rw [if_pos c5, if_pos c5, lits.2.2.2.2]
      simp (disch := omega) only [nI_add, qx_ix, qx_cl, q14, w66]
      exact ⟨_, _, _, rfl, rfl, fin⟩
    rw [if_neg c5, if_neg c5]
    by_cases c6 : p2 = 6
    · rw [if_pos c6, if_pos c6]
      obtain ⟨μ1, e1, t2, t1, w1, -⟩ := pc_solvedNow hv hc
      obtain ⟨ν2, e2, f2⟩ := pr_count hv r0.1 r0.2 i1 (pr_st ν 8)
      obtain ⟨u1, u2, u3⟩ := pi_rT r0 f2
      rw [w74, e1, e2, pq_bndS, pq_bnd2, pq_ixE (by omega) (by decide), nI_clamp (by omega), show μ1.1 84 i = nI (pCn a (pr_st ν) i) from (w1.1 i i1).1, s0]
      exact ⟨_, _, _, rfl, rfl, pI_mk hv hS hx t1 t2 u1 (pK_rT k0 u2)⟩
    rw [if_neg c6, if_neg c6]
    by_cases c7 : p2 = 7
    · rw [if_pos c7, if_pos c7, lits.2.2.2.1]
      simp (disch := omega) only [nI_add, qx_ix, qx_cl, q7, w48]
      exact ⟨_, _, _, rfl, rfl, fin⟩
    rw [if_neg c7, if_neg c7]
    by_cases c8 : p2 = 8
    · rw [if_pos c8, if_pos c8]
      obtain ⟨ν2, e2, l2⟩ := pr_curveN hv r0
      obtain ⟨u1, u2, u3⟩ := pr_cwK l2 r0
      have fin2 := pI_mk hv hS hx hc (pK_c0 μ) u2 (pK_rT k0 u1)
      rw [e2, pq_bndS, pq_ixE (by omega) (by decide), pq_ixE (by omega) (by decide), nI_clamp (by omega)]
      have hL8 := (pD_D hv).2.1
      rcases hc.2.2.2.1.2.2 i i1 with ⟨l, l1, l2', l3, l4⟩ | ⟨l1, l4⟩ <;> rcases l2.2.2.2.2.2 i i1 with ⟨k, k1, k2, k3, k4⟩ | ⟨k1, k4⟩
      · have lne : ¬ nI l = -1 := by
          intro e
          have : (nI l).toInt = (-1 : Int32).toInt := by rw [e]
          rw [nI_toInt (by omega)] at this
          have e1 : (-1 : Int32).toInt = -1 := rfl
          rw [e1] at this
          omega
        rw [l4, k4, if_neg lne, if_pos rfl]; exact ⟨_, _, _, rfl, rfl, fin2⟩
      · exact absurd l3 (k1 l l1 l2')
      · exact absurd k3 (l1 k k1 k2)
      · rw [l4, k4, if_pos rfl, if_neg (by decide)]; exact ⟨_, _, _, rfl, rfl, fin2⟩
    rw [if_neg c8, if_neg c8]
    exact ⟨_, _, _, rfl, rfl, fin⟩
  · rw [i4, i5, pq_bndS, pq_bndS, if_pos rfl, if_pos rfl]; exact ⟨_, _, _, rfl, rfl, fin⟩
theorem op_pillars : zL_op17 pI := by
  intro n μ ν ⟨a, hv, hS, hc, hr, hx⟩
  obtain ⟨k0, r0, s0⟩ := pr_t0 hr 0 (by decide) 0
  unfold f_X11_pillars f_X12_pillars
  rw [pq_letM]
  generalize zz_setI ν 0 0 0 = ν1 at *
  obtain ⟨ν2, e2, l2⟩ := pr_curveN hv r0
  obtain ⟨u1, u2, u3⟩ := pr_cwK l2 r0
  rw [e2, pq_bndS, l2.2.2.2.2.1.1.1, hc.2.2.2.1.2.1.1]
  exact ⟨_, _, rfl, rfl, pI_mk hv hS hx hc (pK_c0 μ) u2 (pK_rT k0 u1)⟩
theorem op_pillar : zL_op18 pI := by
  intro n μ ν p1 p2 ⟨a, hv, hS, hc, hr, hx⟩
  obtain ⟨k0, r0, s0⟩ := pr_t0 hr 0 (by decide) 0
  unfold f_X11_pillar f_X12_pillar
  rw [pq_letM]
  generalize zz_setI ν 0 0 0 = ν1 at *
  obtain ⟨ν2, e2, l2⟩ := pr_curveN hv r0
  obtain ⟨u1, u2, u3⟩ := pr_cwK l2 r0
  have fin := pI_mk hv hS hx hc (pK_c0 μ) u2 (pK_rT k0 u1)
  rw [e2, pq_bndS]
  rcases pi_pillar hv hc.2.2.2.1 l2.2.2.2.2.1.1.1 p1 with ⟨i, i1, i2, i3, i4, i5⟩ | ⟨i4, i5⟩
  · rw [i4, i5, pq_bndS, pq_bndS, if_neg (show ¬ (1 : Int32) = 0 by decide), if_neg (show ¬ (1 : Int32) = 0 by decide), i3]
    have g1 : μ.1 79 i = nI (pDay a i) := hc.2.2.2.1.2.1.2.1 i i1
    have g2 : ν2.1 13 i = nI (pDay a i) := l2.2.2.2.2.1.1.2.1 i i1
    have g3 : ν2.1 14 i = iI (pFac a (pCn a (pr_st ν1)) i) := l2.2.2.2.2.1.1.2.2 i i1
    have g4 : μ.1 80 i = ν2.1 15 i := by
      by_cases c : i = 0
      · rw [c, hc.2.2.2.1.2.1.2.2.2, l2.2.2.2.2.1.2.2.2]
      · rw [hc.2.2.2.1.2.1.2.2.1 i (by omega) i1, l2.2.2.2.2.1.2.2.1 i (by omega) i1]
    simp (disch := omega) only [qx_ix, qx_cl, g1, g2, g3, g4]
    by_cases c0 : p2 = 0
    · rw [if_pos c0, if_pos c0]; exact ⟨_, _, _, rfl, rfl, fin⟩
    rw [if_neg c0, if_neg c0]
    by_cases c1 : p2 = 1
    · rw [if_pos c1, if_pos c1]
      obtain ⟨μ1, e1, t2, t1, w1, -⟩ := pc_solvedNow hv hc
      rw [e1, pq_bndS, show μ1.1 85 i = iI (pFac a (pCn a (pr_st ν)) i) from w1.2.2 i i1, s0]
      exact ⟨_, _, _, rfl, rfl, pI_mk hv hS hx t1 t2 u2 (pK_rT k0 u1)⟩
    rw [if_neg c1, if_neg c1]
    by_cases c2 : p2 = 2
    · rw [if_pos c2, if_pos c2]; exact ⟨_, _, _, rfl, rfl, fin⟩
    rw [if_neg c2, if_neg c2]
    exact ⟨_, _, _, rfl, rfl, fin⟩
  · rw [i4, i5, pq_bndS, pq_bndS, if_pos rfl, if_pos rfl]; exact ⟨_, _, _, rfl, rfl, fin⟩
theorem op_factor : zL_op19 pI := by
  intro n μ ν p1 ⟨a, hv, hS, hc, hr, hx⟩
  obtain ⟨k0, r0, s0⟩ := pr_t0 hr 0 (by decide) 0
  unfold f_X11_factor f_X12_factor
  rw [pq_letM]
  generalize zz_setI ν 0 0 0 = ν1 at *
  have l : (9999 : Int32) = nI 9999 := rfl
  rw [l]
  rcases pi_isDay p1 (N := 9999) (by decide) with ⟨j, j1, j2, j3, j4, j5⟩ | ⟨j1, j2⟩
  · obtain ⟨ν2, e2, l2⟩ := pr_curveN hv r0
    obtain ⟨u1, u2, u3⟩ := pr_cwK l2 r0
    obtain ⟨μ1, e1, t2, t1, w1, -⟩ := pc_solvedNow hv hc
    rw [j5, pq_bndS, if_neg (show ¬ (1 : Int32) = 0 by decide), if_neg j3, if_pos j4, j2, e1, e2, pq_bndS, pq_bndS, pc_X hv t1.1 t1.2.2.2.1 w1 (by omega), pr_X hv u2 l2 (by omega), pq_bndS, pq_bndS, s0]
    exact ⟨_, _, _, rfl, rfl, pI_mk hv hS hx t1 t2 u2 (pK_rT k0 u1)⟩
  · rw [j2, pq_bndS, if_pos rfl]
    have fin := pI_mk hv hS hx hc (pK_c0 μ) r0 k0
    rcases j1 with c | ⟨c, c2⟩
    · rw [if_pos c]; exact ⟨_, _, _, rfl, rfl, fin⟩
    · rw [if_neg c, if_neg c2]; exact ⟨_, _, _, rfl, rfl, fin⟩
