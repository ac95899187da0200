/-! ===== 67: forward rates, rates of swaps, what a bump would do ===== -/
theorem pY_b {x w : Int} (h1 : 1 ≤ x) (h2 : x ≤ 1000000000) (h3 : 1 ≤ w) (h4 : w ≤ 20000) : 1 ≤ x * w ∧ x * w ≤ 20000000000000 := by
  have a1 : 1 * 1 ≤ x * w := Int.mul_le_mul h1 h3 (by omega) (by omega)
  have a2 : x * w ≤ 1000000000 * 20000 := Int.mul_le_mul h2 h4 (by omega) (by omega)
  omega
noncomputable def pRt (a : Nat → Int32) (c : Nat → Nat) (x y : Nat) : Int := ((pX a c x - pX a c y) * 3600000) / (pX a c y * ((y : Int) - (x : Int)))
theorem pc_rateB {a : Nat → Int32} (hv : pv_D a) {m : zz_Mem} {o : Nat} {c : Nat → Nat} (hc : ∀ i, i < pN a → c i ≤ 999) (hp : pc_plan m 2 a) (hs : pc_sched m a) (h : pc_cw m o a c) {x y : Nat} (hxy : x < y) (hy : y < 20000) : f_X1_rateBetween o m (nI x) (nI y) = some (iI (pRt a c x y)) := by
  have b1 := pX_b hv hc h.2.1 x
  have b2 := pX_b hv hc h.2.1 y
  have b3 := pY_b b2.1 b2.2 (w := (y : Int) - (x : Int)) (by omega) (by omega)
  have l0 : (0 : Int64) = lI 0 := rfl
  have lB : (3600000 : Int64) = lI 3600000 := rfl
  unfold f_X1_rateBetween pRt
  rw [pc_X hv hp hs h hy, pq_bndS, pq_letJ, iI_l (by omega) (by omega), qx_sl (by omega) (by omega), lI_mul, pq_letJ, l0, if_neg (lI_leF (by omega) (by decide) (by omega)), pc_X hv hp hs h (by omega), pq_bndS, iI_l (by omega) (by omega), lI_sub, lB, lI_mul, qx_fD (by omega) (by omega) (by omega) (by omega), pq_bndS, lI_i]
theorem pr_rateO {a : Nat → Int32} (hv : pv_D a) {m0 m : zz_Mem} {c : Nat → Nat} (hc : ∀ i, i < pN a → c i ≤ 999) (hr : pI_r m a) (h : pr_cw m0 m a c) {x y : Nat} (hxy : x < y) (hy : y < 20000) : f_X12_rateOf m (nI x) (nI y) = some (iI (pRt a c x y)) := by
  have hF := h.2.2.2.2.1.2.1
  have b1 := pX_b hv hc hF x
  have b2 := pX_b hv hc hF y
  have b3 := pY_b b2.1 b2.2 (w := (y : Int) - (x : Int)) (by omega) (by omega)
  have lB : (3600000 : Int64) = lI 3600000 := rfl
  unfold f_X12_rateOf pRt
  rw [pr_X hv hr h (by omega), pq_bndS, pr_X hv hr h hy, pq_bndS, iI_sub, iI_l (by omega) (by omega), lB, lI_mul, pq_letJ, pq_bndS, iI_l (by omega) (by omega), qx_sl (by omega) (by omega), lI_mul, qx_fO (by omega) (by omega) (by omega) (by omega), pq_bndS, lI_i]
theorem op_forward : zL_op20 pI := by
  intro n μ ν p1 p2 ⟨a, hv, hS, hc, hr, hx⟩
  obtain ⟨k0, r0, s0⟩ := pr_t0 hr 0 (by decide) 0
  unfold f_X11_forward f_X12_forward
  rw [pq_letM]
  generalize zz_setI ν 0 0 0 = ν1 at *
  have fin := pI_mk hv hS hx hc (pK_c0 μ) r0 k0
  have l98 : (9998 : Int32) = nI 9998 := rfl
  have l99 : (9999 : Int32) = nI 9999 := rfl
  have e99 : (9999 : Int64).toInt = 9999 := rfl
  have lo1 := Int32.le_toInt p1
  have hi1 := Int32.toInt_lt p1
  have ew : (p1.toInt64 + 1).toInt = p1.toInt + 1 := by
    rw [Int64.toInt_add, Int32.toInt_toInt64]
    have : (1 : Int64).toInt = 1 := rfl
    rw [this]
    exact Int.bmod_eq_of_le (by omega) (by omega)
  rw [l98, l99]
  rcases pi_isDay p1 (N := 9998) (by decide) with ⟨j, j1, j2, j3, j4, j5⟩ | ⟨j1, j2⟩
  · rw [j5, pq_bndS, if_neg (show ¬ (1 : Int32) = 0 by decide), if_neg j3]
    rcases pi_within p2.toInt64 (p1.toInt64 + 1) 9999 with ⟨h1, h2, h3⟩ | ⟨h1, h3⟩
    · rw [Int32.toInt_toInt64, ew] at h1
      rw [Int32.toInt_toInt64, e99] at h2
      have hj : (j : Int) = p1.toInt := by rw [j2, nI_toInt (by omega)]
      obtain ⟨b, b1, b2, b3⟩ := pi_to (x := p2) (by omega)
      obtain ⟨ν2, e2, l2⟩ := pr_curveN hv r0
      obtain ⟨u1, u2, u3⟩ := pr_cwK l2 r0
      obtain ⟨μ1, e1, t2, t1, w1, -⟩ := pc_solvedNow hv hc
      rw [h3, pq_bndS, if_neg (show ¬ (1 : Int32) = 0 by decide), if_neg (show ¬ p2 ≤ p1 by rw [Int32.le_iff_toInt_le]; omega), if_pos (show p2 ≤ nI 9999 by rw [pi_nle (by decide)]; omega), e1, e2, pq_bndS, pq_bndS, j2, b1, pc_rateB hv (fun i _ => pCn_b _ _ i) t1.1 t1.2.2.2.1 w1 (by omega) (by omega), pr_rateO hv (fun i _ => pCn_b _ _ i) u2 l2 (by omega) (by omega), pq_bndS, pq_bndS, s0]
      exact ⟨_, _, _, rfl, rfl, pI_mk hv hS hx t1 t2 u2 (pK_rT k0 u1)⟩
    · rw [Int32.toInt_toInt64, ew, e99] at h1
      rw [h3, pq_bndS, if_pos rfl]
      by_cases c : p2 ≤ p1
      · rw [if_pos c]; exact ⟨_, _, _, rfl, rfl, fin⟩
      · rw [if_neg c, if_neg (show ¬ p2 ≤ nI 9999 by rw [pi_nle (by decide)]; rw [Int32.le_iff_toInt_le] at c; omega)]
        exact ⟨_, _, _, rfl, rfl, fin⟩
  · rw [j2, pq_bndS, if_pos rfl]
    rcases j1 with c | ⟨c, c2⟩
    · rw [if_pos c]; exact ⟨_, _, _, rfl, rfl, fin⟩
    · rw [if_neg c]
      rw [pi_nle (by decide)] at c2
      by_cases c3 : p2 ≤ p1
      · rw [if_pos c3]; exact ⟨_, _, _, rfl, rfl, fin⟩
      · rw [if_neg c3, if_neg (show ¬ p2 ≤ nI 9999 by rw [pi_nle (by decide)]; rw [Int32.le_iff_toInt_le] at c3; omega)]
        exact ⟨_, _, _, rfl, rfl, fin⟩
/-- days of periods times factors -/
def pZ (a : Nat → Int32) (i : Nat) (g : Nat → Int) : Nat → Int
  | 0 => 0
  | p + 1 => pZ a i g p + pf_len a i p * g (pP a i p)
theorem pZ_b {a : Nat → Int32} {i : Nat} {g : Nat → Int} (hg : ∀ d, 1 ≤ g d ∧ g d ≤ 1000000000) : ∀ p, pf_prev a i p ≤ pZ a i g p ∧ pZ a i g p ≤ pf_prev a i p * 1000000000 := by
  intro p
  induction p with
  | zero => unfold pf_prev pZ; simp
  | succ p ih =>
    rw [pZ, pf_prevS, Int.add_mul]
    have h0 := pf_lenB (a := a) i p
    have h1 : pf_len a i p * 1 ≤ pf_len a i p * g (pP a i p) := Int.mul_le_mul_of_nonneg_left (hg _).1 h0
    have h2 : pf_len a i p * g (pP a i p) ≤ pf_len a i p * 1000000000 := Int.mul_le_mul_of_nonneg_left (hg _).2 h0
    omega
noncomputable def pSw (a : Nat → Int32) (c : Nat → Nat) (i : Nat) : Int := ((1000000000 - pX a c (pE a i)) * 3600000) / pZ a i (pX a c) (pM a i)
theorem pZ_B {a : Nat → Int32} (hv : pv_D a) {c : Nat → Nat} (hc : ∀ i, i < pN a → c i ≤ 999) (hF : pf_FS a c (pFac a c) (pL a)) {i : Nat} (hi : i < pN a) (hK : pK a i = 2) : 1 ≤ pZ a i (pX a c) (pM a i) ∧ pZ a i (pX a c) (pM a i) ≤ 1029000000000 := by
  have h := pZ_b (a := a) (i := i) (pX_b hv hc hF) (pM a i)
  have hin := pv_inD hv hi
  have hM : pM a i = pQ a i + 1 := by unfold pM; rw [if_pos hK]
  have hp : pf_prev a i (pM a i) = (pE a i : Int) := by rw [hM]; unfold pf_prev; rw [if_neg (by omega), Nat.add_sub_cancel, pP_last hin hK]
  have := pE_b hin
  rw [hp] at h
  omega
theorem pc_swapR {a : Nat → Int32} (hv : pv_D a) {m : zz_Mem} {o : Nat} {c : Nat → Nat} (hc : ∀ i, i < pN a → c i ≤ 999) (hp : pc_plan m 2 a) (hs : pc_sched m a) (h : pc_cw m o a c) {i : Nat} (hi : i < pN a) (hK : pK a i = 2) : f_X1_swapRate o m (nI i) = some (iI (pSw a c i)) := by
  have h8 := (pN_b hv).1
  have hfu : zz_fuel = 5000 := rfl
  have hin := pv_inD hv hi
  have h34 := pM_b hin
  have eb := pE_b hin
  have hZ := pZ_B hv hc h.2.1 hi hK
  have bX := pX_b hv hc h.2.1
  have l0 : (0 : Int64) = lI 0 := rfl
  have lB : (3600000 : Int64) = lI 3600000 := rfl
  have lu : (1000000000 : Int64) = lI 1000000000 := rfl
  have loop : ∀ (r p fuel : Nat), p + r = pM a i → r < fuel → f_X1_swapRate_5 o m fuel (nI i) (lI (pZ a i (pX a c) p)) (nI p) = some (iI (pSw a c i)) := by
    intro r
    induction r with
    | zero =>
      intro p fuel h1 h2
      obtain ⟨fu, rfl⟩ : ∃ n, fuel = n + 1 := ⟨fuel - 1, by omega⟩
      have e : p = pM a i := by omega
      subst e
      have bE := bX (pE a i)
      rw [f_X1_swapRate_5, pq_ixE (by omega) (by decide), nI_clamp (by omega), (hs.1 i hi).2.2.1, if_pos (Int32.le_refl _)]
      unfold f_X1_swapRate_55 pSw
      rw [pq_ixE (by omega) (by decide), nI_clamp (by omega), (hs.1 i hi).2.1, pc_X hv hp hs h (by omega), pq_bndS, iI_l (by omega) (by omega), lu, lI_sub, lB, lI_mul, pq_letJ, l0, if_neg (lI_leF (by omega) (by decide) (by omega)), qx_fD (by omega) (by omega) (by omega) (by omega), pq_bndS, lI_i]
    | succ r ih =>
      intro p fuel h1 h2
      obtain ⟨fu, rfl⟩ : ∃ n, fuel = n + 1 := ⟨fuel - 1, by omega⟩
      have hpm : p < pM a i := by omega
      have hl := pf_lenR hv hi hpm
      have hP := pP_b hin hK (k := p) (by have := pM_Q hpm; omega)
      have bP := bX (pP a i p)
      rw [f_X1_swapRate_5, pq_ixE (by omega) (by decide), nI_clamp (by omega), (hs.1 i hi).2.2.1, if_neg (nI_ge (by omega) (by omega)), pc_plen hv hs hi hpm, pq_bndS, pc_pend hv hs hi hpm, pq_bndS, pc_X hv hp hs h (by omega), pq_bndS, iI_l (by omega) (by omega), iI_l (by omega) (by omega), lI_mul, lI_add, pq_letJ, pq_letI, nI_1]
      exact ih (p + 1) fu (by omega) (by omega)
  have := loop (pM a i) 0 zz_fuel (by omega) (by omega)
  rw [nI_0] at this
  exact this
theorem pr_swapR {a : Nat → Int32} (hv : pv_D a) {m0 m : zz_Mem} {c : Nat → Nat} (hc : ∀ i, i < pN a → c i ≤ 999) (hr : pI_r m a) (h : pr_cw m0 m a c) {i : Nat} (hi : i < pN a) (hK : pK a i = 2) : f_X12_implied_74 zz_fuel (nI i) 0 0 m = some (iI (pSw a c i), m) := by
  have h8 := (pN_b hv).1
  have hfu : zz_fuel = 5000 := rfl
  have hin := pv_inD hv hi
  have h34 := pM_b hin
  have eb := pE_b hin
  have hF := h.2.2.2.2.1.2.1
  have hZ := pZ_B hv hc hF hi hK
  have bX := pX_b hv hc hF
  have hs := hr.2
  have lB : (3600000 : Int64) = lI 3600000 := rfl
  have lu : (1000000000 : Int32) = iI 1000000000 := rfl
  have loop : ∀ (r p fuel : Nat), p + r = pM a i → r < fuel → f_X12_implied_74 fuel (nI i) (lI (pZ a i (pX a c) p)) (nI p) m = some (iI (pSw a c i), m) := by
    intro r
    induction r with
    | zero =>
      intro p fuel h1 h2
      obtain ⟨fu, rfl⟩ : ∃ n, fuel = n + 1 := ⟨fuel - 1, by omega⟩
      have e : p = pM a i := by omega
      subst e
      have bE := bX (pE a i)
      rw [f_X12_implied_74, pq_ixE (by omega) (by decide), nI_clamp (by omega), (hs.1 i hi).2.2.1, if_pos (Int32.le_refl _)]
      unfold f_X12_implied_115 pSw
      rw [pq_ixE (by omega) (by decide), nI_clamp (by omega), (hs.1 i hi).2.1, pr_X hv hr h (by omega), pq_bndS, lu, iI_sub, iI_l (by omega) (by omega), lB, lI_mul, qx_fO (by omega) (by omega) (by omega) (by omega), pq_bndS, lI_i]
    | succ r ih =>
      intro p fuel h1 h2
      obtain ⟨fu, rfl⟩ : ∃ n, fuel = n + 1 := ⟨fuel - 1, by omega⟩
      have hpm : p < pM a i := by omega
      have hl := pf_lenR hv hi hpm
      have hP := pP_b hin hK (k := p) (by have := pM_Q hpm; omega)
      have bP := bX (pP a i p)
      rw [f_X12_implied_74, pq_ixE (by omega) (by decide), nI_clamp (by omega), (hs.1 i hi).2.2.1, if_neg (nI_ge (by omega) (by omega)), pr_len hv hs hi hpm, pq_bndS, pr_end hv hs hi hpm, pq_bndS, pr_X hv hr h (by omega), pq_bndS, iI_l (by omega) (by omega), iI_l (by omega) (by omega), lI_mul, lI_add, pq_letJ, pq_letI, nI_1]
      exact ih (p + 1) fu (by omega) (by omega)
  have := loop (pM a i) 0 zz_fuel (by omega) (by omega)
  rw [nI_0] at this
  exact this
theorem op_implied : zL_op21 pI := by
  intro n μ ν p1 ⟨a, hv, hS, hc, hr, hx⟩
  obtain ⟨k0, r0, s0⟩ := pr_t0 hr 0 (by decide) 0
  unfold f_X11_implied f_X12_implied
  rw [pq_letM]
  generalize zz_setI ν 0 0 0 = ν1 at *
  have fin := pI_mk hv hS hx hc (pK_c0 μ) r0 k0
  rcases pi_input hv hc.1 r0 p1 with ⟨i, i1, i2, i3, i4, i5⟩ | ⟨i4, i5⟩
  · have hin := pv_inD hv i1
    have eb := pE_b hin
    have sb := pS_b hin
    have l24 : (24 : Int32) = nI 24 := rfl
    obtain ⟨g1, g2, -⟩ := hc.2.2.2.1.1 i i1
    obtain ⟨g3, g4, -⟩ := r0.2.1 i i1
    rw [i4, i5, pq_bndS, pq_bndS, if_neg (show ¬ (1 : Int32) = 0 by decide), if_neg (show ¬ (1 : Int32) = 0 by decide), i3, l24, nI_add]
    have e4 : μ.1 4 i = nI (pK a i) := (hc.1.2.2.2.2.2.2.2.1 i i1).1.trans hin.1.1
    have b24 : pK a i ≤ 2 := hin.1.2
    simp (disch := omega) only [qx_ix, qx_cl, g1, g2, g3, g4, e4]
    by_cases c1 : pS a i < pE a i
    · rw [if_pos (nI_lt c1 (by omega)), if_pos (nI_lt c1 (by omega))]
      obtain ⟨ν2, e2, l2⟩ := pr_curveN hv r0
      obtain ⟨u1, u2, u3⟩ := pr_cwK l2 r0
      obtain ⟨μ1, e1, t2, t1, w1, -⟩ := pc_solvedNow hv hc
      have e24 : ν2.1 1 (24 + i) = nI (pK a i) := (u2.1 _ (by omega)).trans hin.1.1
      have fin2 := pI_mk hv hS hx t1 t2 u2 (pK_rT k0 u1)
      rw [e1, e2, pq_bndS, pq_bndS, pq_bndS, e24]
      by_cases c2 : pK a i = 2
      · have c2' : nI (pK a i) = 2 := by rw [c2]; rfl
        rw [if_pos c2', if_pos c2', pc_swapR hv (fun i _ => pCn_b _ _ i) t1.1 t1.2.2.2.1 w1 i1 c2, pr_swapR hv (fun i _ => pCn_b _ _ i) u2 l2 i1 c2, pq_bndS, s0]
        exact ⟨_, _, _, rfl, rfl, fin2⟩
      · have l2' : (2 : Int32) = nI 2 := rfl
        have c2' : ¬ nI (pK a i) = 2 := by rw [l2', nI_eq (by omega) (by decide)]; exact c2
        rw [if_neg c2', if_neg c2', (t1.2.2.2.1.1 i i1).1, (t1.2.2.2.1.1 i i1).2.1, (u2.2.1 i i1).1, (u2.2.1 i i1).2.1, pc_rateB hv (fun i _ => pCn_b _ _ i) t1.1 t1.2.2.2.1 w1 c1 (by omega), pr_rateO hv (fun i _ => pCn_b _ _ i) u2 l2 c1 (by omega), pq_bndS, pq_bndS, s0]
        exact ⟨_, _, _, rfl, rfl, fin2⟩
    · rw [if_neg (nI_nlt (by omega) (by omega)), if_neg (nI_nlt (by omega) (by omega))]
      exact ⟨_, _, _, rfl, rfl, fin⟩
  · rw [i4, i5, pq_bndS, pq_bndS, if_pos rfl, if_pos rfl]; exact ⟨_, _, _, rfl, rfl, fin⟩
theorem op_falls : zL_op23 pI := by
  intro n μ ν p1 p2 ⟨a, hv, hS, hc, hr, hx⟩
  obtain ⟨k0, r0, s0⟩ := pr_t0 hr 0 (by decide) 0
  unfold f_X11_falls f_X12_falls
  rw [pq_letM]
  generalize zz_setI ν 0 0 0 = ν1 at *
  have fin := pI_mk hv hS hx hc (pK_c0 μ) r0 k0
  have l : (9999 : Int32) = nI 9999 := rfl
  rcases pi_input hv hc.1 r0 p1 with ⟨i, i1, i2, i3, i4, i5⟩ | ⟨i4, i5⟩
  · rw [i4, i5, pq_bndS, pq_bndS, if_neg (show ¬ (1 : Int32) = 0 by decide), if_neg (show ¬ (1 : Int32) = 0 by decide), i3, l]
    rcases pi_isDay p2 (N := 9999) (by decide) with ⟨j, j1, j2, j3, j4, j5⟩ | ⟨j1, j2⟩
    · rw [j5, pq_bndS, if_neg (show ¬ (1 : Int32) = 0 by decide), if_neg j3, if_pos j4, j2]
      obtain ⟨ν2, e2, l2⟩ := pr_curveN hv r0
      obtain ⟨u1, u2, u3⟩ := pr_cwK l2 r0
      obtain ⟨ν3, e3, l3⟩ := pr_withN hv u2 i1 1
      obtain ⟨v1, v2, v3⟩ := pr_cwK l3 u2
      obtain ⟨μ1, e1, t2, t1, w1, -⟩ := pc_solvedNow hv hc
      obtain ⟨μ2, e4, t4, t3, w3, w4, -⟩ := pc_trial hv t1 i1 1
      rw [e1, e2, pq_bndS, pq_bndS, pc_X hv t1.1 t1.2.2.2.1 w1 (by omega), pr_X hv u2 l2 (by omega), pq_bndS, pq_bndS, e4, e3, pq_bndS, pq_bndS, pc_X hv t3.1 t3.2.2.2.1 w4 (by omega), pr_X hv v2 l3 (by omega), pq_bndS, pq_bndS, u3, s0]
      exact ⟨_, _, _, rfl, rfl, pI_mk hv hS hx t3 (pK_cT t2 t4) v2 (pK_rT k0 (pK_rT u1 v1))⟩
    · rw [j2, pq_bndS, if_pos rfl]
      rcases j1 with c | ⟨c, c2⟩
      · rw [if_pos c]; exact ⟨_, _, _, rfl, rfl, fin⟩
      · rw [if_neg c, if_neg c2]; exact ⟨_, _, _, rfl, rfl, fin⟩
  · rw [i4, i5, pq_bndS, pq_bndS, if_pos rfl, if_pos rfl]; exact ⟨_, _, _, rfl, rfl, fin⟩
theorem op_worth : zL_op25 pI := by
  intro n μ ν ⟨a, hv, hS, hc, hr, hx⟩
  obtain ⟨k0, r0, s0⟩ := pr_t0 hr 0 (by decide) 0
  unfold f_X11_worth f_X12_worth
  rw [pq_letM]
  generalize zz_setI ν 0 0 0 = ν1 at *
  obtain ⟨ν2, e2, u1, u2, u3⟩ := pr_worthNow hv r0
  obtain ⟨μ1, e1, t2, t1, w1, -⟩ := pc_solvedNow hv hc
  rw [e1, e2, pq_bndS, pq_bnd2, pc_worth hv (fun i _ => pCn_b _ _ i) t1 w1, pq_bndS, s0]
  exact ⟨_, _, _, rfl, rfl, pI_mk hv hS hx t1 t2 u2 (pK_rT k0 u1)⟩
theorem op_move : zL_op26 pI := by
  intro n μ ν p1 ⟨a, hv, hS, hc, hr, hx⟩
  obtain ⟨k0, r0, s0⟩ := pr_t0 hr 0 (by decide) 0
  unfold f_X11_move f_X12_move
  rw [pq_letM]
  generalize zz_setI ν 0 0 0 = ν1 at *
  have fin := pI_mk hv hS hx hc (pK_c0 μ) r0 k0
  rcases pi_input hv hc.1 r0 p1 with ⟨i, i1, i2, i3, i4, i5⟩ | ⟨i4, i5⟩
  · rw [i4, i5, pq_bndS, pq_bndS, if_neg (show ¬ (1 : Int32) = 0 by decide), if_neg (show ¬ (1 : Int32) = 0 by decide), i3]
    obtain ⟨ν2, e2, u1, u2, u3⟩ := pr_worthWith hv r0 i1 1
    obtain ⟨ν3, e3, v1, v2, v3⟩ := pr_worthNow hv u2
    obtain ⟨μ2, e4, t4, t3, w3, w4, -⟩ := pc_trial hv hc i1 1
    rw [e4, e2, pq_bndS, pq_bnd2, e3, pq_bnd2, pc_worth hv (fun i _ => pCb_b (pCn_b _ _ i)) t3 w4, pc_worth hv (fun i _ => pCn_b _ _ i) t3 w3, pq_bndS, pq_bndS, u3, s0]
    exact ⟨_, _, _, rfl, rfl, pI_mk hv hS hx t3 t4 v2 (pK_rT k0 (pK_rT u1 v1))⟩
  · rw [i4, i5, pq_bndS, pq_bndS, if_pos rfl, if_pos rfl]; exact ⟨_, _, _, rfl, rfl, fin⟩
theorem op_bumped : zL_op27 pI := by
  intro n μ ν p1 p2 ⟨a, hv, hS, hc, hr, hx⟩
  obtain ⟨k0, r0, s0⟩ := pr_t0 hr 0 (by decide) 0
  unfold f_X11_bumped f_X12_bumped
  rw [pq_letM]
  generalize zz_setI ν 0 0 0 = ν1 at *
  have fin := pI_mk hv hS hx hc (pK_c0 μ) r0 k0
  have a1 : (-999 : Int64).toInt = -999 := rfl
  have a2 : (999 : Int64).toInt = 999 := rfl
  have a3 : (-999 : Int32).toInt = -999 := rfl
  have a4 : (999 : Int32).toInt = 999 := rfl
  rcases pi_input hv hc.1 r0 p1 with ⟨i, i1, i2, i3, i4, i5⟩ | ⟨i4, i5⟩
  · rw [i4, i5, pq_bndS, pq_bndS, if_neg (show ¬ (1 : Int32) = 0 by decide), if_neg (show ¬ (1 : Int32) = 0 by decide), i3]
    rcases pi_within p2.toInt64 (-999) 999 with ⟨h1, h2, h3⟩ | ⟨h1, h3⟩
    · rw [Int32.toInt_toInt64, a1] at h1
      rw [Int32.toInt_toInt64, a2] at h2
      obtain ⟨ν2, e2, u1, u2, u3⟩ := pr_worthWith hv r0 i1 p2
      obtain ⟨μ2, e4, t4, t3, w3, w4, -⟩ := pc_trial hv hc i1 p2
      rw [h3, pq_bndS, if_neg (show ¬ (1 : Int32) = 0 by decide), if_neg (show ¬ p2 < -999 by rw [Int32.lt_iff_toInt_lt, a3]; omega), if_pos (show p2 ≤ 999 by rw [Int32.le_iff_toInt_le, a4]; omega), e4, e2, pq_bndS, pq_bnd2, pc_worth hv (fun i _ => pCb_b (pCn_b _ _ i)) t3 w4, pq_bndS, s0]
      exact ⟨_, _, _, rfl, rfl, pI_mk hv hS hx t3 t4 u2 (pK_rT k0 u1)⟩
    · rw [Int32.toInt_toInt64, a1, a2] at h1
      rw [h3, pq_bndS, if_pos rfl]
      by_cases c : p2 < -999
      · rw [if_pos c]; exact ⟨_, _, _, rfl, rfl, fin⟩
      · rw [if_neg c, if_neg (show ¬ p2 ≤ 999 by rw [Int32.le_iff_toInt_le, a4]; rw [Int32.lt_iff_toInt_lt, a3] at c; omega)]
        exact ⟨_, _, _, rfl, rfl, fin⟩
  · rw [i4, i5, pq_bndS, pq_bndS, if_pos rfl, if_pos rfl]; exact ⟨_, _, _, rfl, rfl, fin⟩
theorem op_sound : zL_op22 pI := by
  intro n μ ν ⟨a, hv, hS, hc, hr, hx⟩
  obtain ⟨k0, r0, s0⟩ := pr_t0 hr 0 (by decide) 0
  unfold f_X11_sound f_X12_sound
  rw [pq_letM]
  generalize zz_setI ν 0 0 0 = ν1 at *
  have hfu : zz_fuel = 5000 := rfl
  have hL8 := (pD_D hv).2.1
  obtain ⟨ν2, e2, l2⟩ := pr_curveN hv r0
  obtain ⟨u1, u2, u3⟩ := pr_cwK l2 r0
  obtain ⟨μ1, e1, t2, t1, w1, -⟩ := pc_solvedNow hv hc
  rw [e1, e2, pq_bndS, pq_bndS]
  have fin := pI_mk hv hS hx t1 t2 u2 (pK_rT k0 u1)
  have loop : ∀ (r k fuel : Nat), k + r = pL a → r < fuel → ∃ x, f_X11_sound_7 fuel (nI (k + 1)) μ1 = some (x, μ1) ∧ f_X12_sound_11 fuel (nI (k + 1)) ν2 = some (x, ν2) := by
    intro r
    induction r with
    | zero =>
      intro k fuel h1 h2
      obtain ⟨fu, rfl⟩ : ∃ n, fuel = n + 1 := ⟨fuel - 1, by omega⟩
      have e : k = pL a := by omega
      subst e
      rw [f_X11_sound_7, f_X12_sound_11, t1.2.2.2.1.2.1.1, l2.2.2.2.2.1.1.1, if_pos (Int32.le_refl _), if_pos (Int32.le_refl _)]
      exact ⟨_, rfl, rfl⟩
    | succ r ih =>
      intro k fuel h1 h2
      obtain ⟨fu, rfl⟩ : ∃ n, fuel = n + 1 := ⟨fuel - 1, by omega⟩
      have a1 : μ1.1 85 (k + 1) = iI (pFac a (pCn a (pr_st ν)) (k + 1)) := w1.2.2 (k + 1) (by omega)
      have a2 : μ1.1 85 k = iI (pFac a (pCn a (pr_st ν)) k) := w1.2.2 k (by omega)
      have a3 : ν2.1 14 (k + 1) = iI (pFac a (pCn a (pr_st ν)) (k + 1)) := by rw [← s0]; exact l2.2.2.2.2.1.1.2.2 (k + 1) (by omega)
      have a4 : ν2.1 14 k = iI (pFac a (pCn a (pr_st ν)) k) := by rw [← s0]; exact l2.2.2.2.2.1.1.2.2 k (by omega)
      rw [f_X11_sound_7, f_X12_sound_11, t1.2.2.2.1.2.1.1, l2.2.2.2.2.1.1.1, if_neg (nI_ge (by omega) (by omega)), if_neg (nI_ge (by omega) (by omega)), nI_pred]
      simp (disch := omega) only [qx_ix, qx_cl, a1, a2, a3, a4]
      by_cases c : iI (pFac a (pCn a (pr_st ν)) (k + 1)) ≤ iI (pFac a (pCn a (pr_st ν)) k)
      · rw [if_pos c, if_pos c, pq_letI, pq_letI, nI_1]
        exact ih (k + 1) fu (by omega) (by omega)
      · rw [if_neg c, if_neg c]
        exact ⟨_, rfl, rfl⟩
  obtain ⟨x, z1, z2⟩ := loop (pL a) 0 zz_fuel (by omega) (by omega)
  exact ⟨x, _, _, z1, z2, fin⟩
def pSum (st : Nat → Int32) : Nat → Int32
  | 0 => 0
  | k + 1 => pSum st k + st k
theorem pc_rateSum {a : Nat → Int32} (hv : pv_D a) {m : zz_Mem} (hp : pc_plan m 2 a) {o0 : Nat} {st : Nat → Int32} (hst : ∀ i, i < pN a → m.1 (o0 + 1) i = st i) : f_X6_rateSum o0 m = some (pSum st (pN a)) := by
  have h8 := (pN_b hv).1
  have hfu : zz_fuel = 5000 := rfl
  have h5 : m.1 2 5 = nI (pN a) := hp.2.2.2.2.1.trans (pN_b hv).2
  have l8 : (8 : Int32) = nI 8 := rfl
  have loop : ∀ (r k fuel : Nat), k + r = pN a → r < fuel → f_X6_rateSum_4 o0 m fuel (pSum st k) (nI k) = some (pSum st (pN a)) := by
    intro r
    induction r with
    | zero =>
      intro k fuel h1 h2
      obtain ⟨fu, rfl⟩ : ∃ n, fuel = n + 1 := ⟨fuel - 1, by omega⟩
      have e : k = pN a := by omega
      subst e
      rw [f_X6_rateSum_4, h5, if_pos (Int32.le_refl _)]
    | succ r ih =>
      intro k fuel h1 h2
      obtain ⟨fu, rfl⟩ : ∃ n, fuel = n + 1 := ⟨fuel - 1, by omega⟩
      rw [f_X6_rateSum_4, h5, if_neg (nI_ge (by omega) (by omega)), l8, if_neg (nI_ge (by omega) (by omega)), pq_ixE (by omega) (by decide), nI_clamp (by omega), hst k (by omega), pq_letI, pq_letI, nI_1]
      exact ih (k + 1) fu (by omega) (by omega)
  have := loop (pN a) 0 zz_fuel (by omega) (by omega)
  rw [nI_0] at this
  exact this
theorem pr_rateSum {a : Nat → Int32} (hv : pv_D a) {m : zz_Mem} (hr : pv_ag (m.1 1) a) : f_X12_ratesSum m = some (pSum (pr_st m) (pN a)) := by
  have h8 := (pN_b hv).1
  have hfu : zz_fuel = 5000 := rfl
  have h5 : m.1 1 4 = nI (pN a) := (hr 4 (by omega)).trans (pN_b hv).2
  have l66 : (66 : Int32) = nI 66 := rfl
  have loop : ∀ (r k fuel : Nat), k + r = pN a → r < fuel → f_X12_ratesSum_4 m fuel (pSum (pr_st m) k) (nI k) = some (pSum (pr_st m) (pN a)) := by
    intro r
    induction r with
    | zero =>
      intro k fuel h1 h2
      obtain ⟨fu, rfl⟩ : ∃ n, fuel = n + 1 := ⟨fuel - 1, by omega⟩
      have e : k = pN a := by omega
      subst e
      rw [f_X12_ratesSum_4, h5, if_pos (Int32.le_refl _)]
    | succ r ih =>
      intro k fuel h1 h2
      obtain ⟨fu, rfl⟩ : ∃ n, fuel = n + 1 := ⟨fuel - 1, by omega⟩
      rw [f_X12_ratesSum_4, h5, if_neg (nI_ge (by omega) (by omega)), l66, nI_add, pq_ixE (by omega) (by decide), nI_clamp (by omega), pq_letI, pq_letI, nI_1]
      exact ih (k + 1) fu (by omega) (by omega)
  have := loop (pN a) 0 zz_fuel (by omega) (by omega)
  rw [nI_0] at this
  exact this
theorem op_count : zL_op42 pI := by
  intro n μ ν p1 ⟨a, hv, hS, hc, hr, hx⟩
  obtain ⟨k0, r0, s0⟩ := pr_t0 hr 0 (by decide) 0
  unfold f_X11_count f_X12_count
  rw [pq_letM]
  generalize zz_setI ν 0 0 0 = ν1 at *
  have fin := pI_mk hv hS hx hc (pK_c0 μ) r0 k0
  have h8 := (pN_b hv).1
  have hfu : zz_fuel = 5000 := rfl
  have hp := hc.1
  have g4 : ν1.1 1 4 = μ.1 2 5 := (r0.1 4 (by omega)).trans hp.2.2.2.2.1.symm
  have g5 : ν1.1 1 5 = μ.1 2 10 := (r0.1 5 (by omega)).trans hp.2.2.2.2.2.1.symm
  have g3 : ν1.1 1 3 = μ.1 2 3 := (r0.1 3 (by omega)).trans hp.2.2.2.1.symm
  have g1 : ν1.1 1 1 = μ.1 2 0 := (r0.1 1 (by omega)).trans hp.1.symm
  have g2 : ν1.1 1 2 = μ.1 2 1 := (r0.1 2 (by omega)).trans hp.2.1.symm
  have g0 : ν1.1 1 0 = μ.1 2 2 := (r0.1 0 (by omega)).trans hp.2.2.1.symm
  have g74 : ν1.1 1 74 = μ.1 13 2 := by rw [hc.2.1.1, ← s0]; rfl
  have g85 : ν1.1 1 85 = μ.1 34 2 := by
    obtain ⟨s, nx, s1, s2, s3, s4, -⟩ := hx.1
    rw [k0.1 1 (by omega), s3, s4]
  have g05 : ν1.1 0 5 = μ.1 0 1 := by
    obtain ⟨len, l1, l2, l3, -⟩ := hx.2.2.2.1
    rw [k0.2.2.1, l3, l2]
  by_cases c0 : p1 = 0
  · rw [if_pos c0, if_pos c0, g4]; exact ⟨_, _, rfl, rfl, fin⟩
  rw [if_neg c0, if_neg c0]
  by_cases c1 : p1 = 1
  · rw [if_pos c1, if_pos c1, g5]; exact ⟨_, _, rfl, rfl, fin⟩
  rw [if_neg c1, if_neg c1]
  by_cases c2 : p1 = 2
  · rw [if_pos c2, if_pos c2, g3]; exact ⟨_, _, rfl, rfl, fin⟩
  rw [if_neg c2, if_neg c2]
  by_cases c3 : p1 = 3
  · rw [if_pos c3, if_pos c3, g1]; exact ⟨_, _, rfl, rfl, fin⟩
  rw [if_neg c3, if_neg c3]
  by_cases c4 : p1 = 4
  · rw [if_pos c4, if_pos c4, g2]; exact ⟨_, _, rfl, rfl, fin⟩
  rw [if_neg c4, if_neg c4]
  by_cases c5 : p1 = 5
  · rw [if_pos c5, if_pos c5, g74]; exact ⟨_, _, rfl, rfl, fin⟩
  rw [if_neg c5, if_neg c5]
  by_cases c6 : p1 = 6
  · rw [if_pos c6, if_pos c6, pc_rateSum hv hc.1 hc.2.1.2.1, pr_rateSum hv r0.1, pq_bndS, pq_bndS, s0]
    exact ⟨_, _, rfl, rfl, fin⟩
  rw [if_neg c6, if_neg c6]
  by_cases c7 : p1 = 7
  · rw [if_pos c7, if_pos c7, g85]; exact ⟨_, _, rfl, rfl, fin⟩
  rw [if_neg c7, if_neg c7]
  by_cases c8 : p1 = 8
  · rw [if_pos c8, if_pos c8, g05]; exact ⟨_, _, rfl, rfl, fin⟩
  rw [if_neg c8, if_neg c8]
  by_cases c9 : p1 = 9
  · rw [if_pos c9, if_pos c9, g0]; exact ⟨_, _, rfl, rfl, fin⟩
  rw [if_neg c9, if_neg c9]
  exact ⟨_, _, rfl, rfl, fin⟩
