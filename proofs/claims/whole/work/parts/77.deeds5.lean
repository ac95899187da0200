/-! ===== 77: judged deeds, weeks by draws ===== -/
/-- a curve on trial by a stand and a shift -/
theorem pc_tryC {a st : Nat → Int32} (hv : pv_D a) {m : zz_Mem} (h : pI_c m a st) {o0 : Nat} (ho : o0 = 13 ∨ o0 = 69) (sh : Int32) {s0 : Nat → Int32} (hs : ∀ j, j < pN a → m.1 (o0 + 1) j = s0 j) : ∃ m1 m2, f_X1_countRates 88 o0 sh m = some m1 ∧ f_X1_solve 88 1 m1 = some m2 ∧ pI_c m2 a st ∧ pK_c m m2 ∧ pc_cw m2 88 a (pCnt a s0 sh) ∧ pq_fr [11, 12, 88, 89, 90, 91, 92] m m2 := by
  obtain ⟨h1, h2, h3, h4, h5, h6, h7⟩ := h
  obtain ⟨m1, e1, f1, c1⟩ := pc_countRates hv (o := 88) (Or.inr rfl) ho sh (st := s0) h1 h4 hs
  have hc1 : pc_cnt m1 88 a (pCnt a s0 sh) := fun i hi => ⟨c1 i hi, pg_clB _⟩
  obtain ⟨m2, F', e2, f2, s2, r2, b2⟩ := pc_solve hv (c := pCnt a s0 sh) (o := 88) (Or.inr rfl) (m := m1) (pc_planF h1 f1 (fun j hj => by simp <;> omega)) (pc_schedF h4 f1 (fun j a1 a2 => by simp <;> omega)) hc1 (by unfold pc_fb; rw [(f1 (88 + 2) (by simp)).1]; exact h6) (Nat.zero_le _) (F := fun _ => 1000000000) ⟨rfl, fun k q1 q2 => by omega⟩ (fun j q1 q2 => by omega)
  have e2' : f_X1_solve 88 1 m1 = some m2 := e2
  have fr : pq_fr [11, 12, 88, 89, 90, 91, 92] m m2 := pq_frT (pq_frW f1 (by simp <;> omega)) (pq_frW f2 (by simp <;> omega))
  refine ⟨m1, m2, e1, e2', ⟨pc_planF h1 fr (fun j hj => by simp <;> omega), pc_standF h2 fr (by simp) (by simp) (by simp), ?_, pc_schedF h4 fr (fun j a1 a2 => by simp <;> omega), ?_, b2, ?_⟩, pK_cF fr (by simp <;> omega), pc_cvw ⟨by unfold pc_cnt; rw [(f2 (88 + 1) (by simp)).1]; exact hc1, s2, r2⟩, fr⟩
  · unfold pc_known; rw [(fr 82 (by simp)).1]; exact h3
  · unfold pc_fb; rw [(fr (83 + 2) (by simp)).1]; exact h5
  · unfold pc_now pc_cv pc_cnt; rw [(fr 0 (by simp)).1, (fr (83 + 1) (by simp)).1, (fr (83 + 2) (by simp)).1]; exact h7
theorem op_judge : zL_op14 pI := by
  intro n μ ν p1 p2 ⟨a, hv, hS, hc, hr, hx⟩
  have k0 := pr_t0 hr 0 (by decide) 0
  have fr0 : pFr ν (zz_setI ν 0 0 0) := pFrI ν (by decide) 0
  obtain ⟨m1, e1, f1, fc1, h69, hJ⟩ := pj_start hv hS hc hr 69 (Or.inr rfl)
  have hfu : zz_fuel = 5000 := rfl
  have hL8 := (pD_D hv).2.1
  unfold f_X11_judge f_X12_judge
  rw [pq_letM]
  have htr : ∀ t, t < 4 → pX_tray μ (zz_setI ν 0 0 0) t := fun t ht => hx.2.1 t ht
  have hJ1 := pJ_r (ν' := zz_setI ν 0 0 0) hJ rfl
  generalize zz_setI ν 0 0 0 = ν1 at *
  have fin := pI_mk hv hS hx hc (pK_c0 μ) k0.2.1 k0.1
  have es1 : pr_st ν1 = pr_st ν := hJ1.2.2.2.1
  have a0 : (0 : Int64).toInt = 0 := rfl
  have a3 : (3 : Int64).toInt = 3 := rfl
  have l3 : (3 : Int32) = nI 3 := rfl
  rcases pi_within p2.toInt64 0 3 with ⟨g1, g2, g3⟩ | ⟨g1, g3⟩
  · rw [Int32.toInt_toInt64, a0] at g1
    rw [Int32.toInt_toInt64, a3] at g2
    have b1 : ¬ p2 < 0 := by rw [pi_neg]; omega
    have b2 : p2 ≤ 3 := by rw [l3, pi_nle (by decide)]; omega
    rw [g3, pq_bndS, if_neg (show ¬ (1 : Int32) = 0 by decide), if_neg b1, if_pos b2]
    rcases pt_no htr p1 with ⟨t, sz, so, t1, t2, t3, t4, t5, t6, t7, t8, t9, t10, t11, t12⟩ | ⟨t, t1, t2, t5, t6, t7⟩ | ⟨t5, t7⟩
    · obtain ⟨ν2, e2, f2, q2⟩ := pr_stores ν1
      have r1 : ν2.1 1 = ν1.1 1 := (f2 1 (by simp)).1
      have hJ2 : pJ a 69 m1 ν2 (pr_st ν) := pJ_r (ν := ν1) ⟨hJ1.1, h69, hJ1.2.2.1, hJ1.2.2.2.1, hJ1.2.2.2.2⟩ r1
      unfold f_X12_tells f_X11_doAll
      rw [t5, t7, pq_bndS, pq_bndS, if_pos rfl, if_pos rfl, t2, pq_ixE (by omega) (by decide), nI_clamp (by omega), t6, pq_bndS, if_pos rfl, e1, pq_bndS, pq_ixE (by omega) (by decide), e2, pq_bndS, pq_letM]
      obtain ⟨k', w, m2, ν3, st2, z1, z2, z3, z4, z5, z6, z7, z8, z9, z10, z11, z12⟩ := pj_all hv (Or.inr rfl) t1 t3 sz 0 zz_fuel m1 (zz_setI ν2 0 30 0) (pr_st ν) (by omega) (by omega) (pJ_r hJ2 rfl) (by rw [(f1 (99 + 2 * t) (by simp <;> omega)).1]; exact t8) (by rw [pz_In _ _ _ (by decide), (f2 24 (by simp)).1]; exact t9) (fun j hj => by rw [(f1 (99 + 2 * t + 1) (by simp <;> omega)).2.1, show (zz_setI ν2 0 30 0).2.1 25 = ν2.2.1 25 from rfl, (f2 25 (by simp)).2.1]; exact t12 j hj) qx_isE
      have l0 : nI 0 = 0 := rfl
      rw [l0] at z3 z4
      rw [z3, z4, pq_bnd2, pq_bnd2]
      obtain ⟨y1, y2, y3, y4, y5⟩ := z7
      have frA : pFr ν ν3 := pFrT fr0 (pFrT (pFr17 f2) (pFrT (pFrI ν2 (by decide) 0) z9))
      have hr3 : pI_r ν3 a := ⟨y3, pr_schedF hr.2 frA.1 (fun j a1 a2 => by simp <;> omega)⟩
      obtain ⟨ν4, e4, l4⟩ := pr_curveN hv hr3
      obtain ⟨u1, u2, u3⟩ := pr_cwK l4 hr3
      rw [pr_rateSum hv y3, pq_bndS, e4, pq_bndS, l4.2.2.2.2.1.1.1, nI_pred]
      simp (disch := omega) only [qx_ix, qx_cl]
      rw [l4.2.2.2.2.1.1.2.2 (pL a) (Nat.le_refl _), pq_letI, y4]
      obtain ⟨ν5, e5, f5, g5, g6⟩ := pr_isAgain ν4
      have e30 : ν5.1 0 30 = w := by rw [(f5 0 (by simp)).1, l4.2.2.1 30 (by decide)]; exact z5
      rw [e5, pq_bndS, e30]
      -- the reference is as it was
      have r17 : ν4.1 17 = ν2.1 17 := by rw [(l4.1 17 (by simp)).1, z12, pz_In _ _ _ (by decide)]
      have row1 : ν5.1 1 = ν.1 1 := by
        funext j
        by_cases cj : j < 66 ∨ 84 < j
        · rw [g6 j cj, (l4.1 1 (by simp)).1, frA.2.1 j cj]
        · obtain ⟨k, rfl⟩ : ∃ k, j = 66 + k := ⟨j - 66, by omega⟩
          rw [g5 k (by omega), r17, q2 k (by omega), es1]; rfl
      have hkr : pK_r ν ν5 := by
        refine ⟨fun k hk => ?_, ?_, ?_, ?_, ?_⟩
        · by_cases c1 : k = 1
          · rw [c1]; exact row1
          · rw [(f5 k (by simp <;> omega)).1, (l4.1 k (by simp <;> omega)).1, (frA.1 k (by simp <;> omega)).1]
        · rw [(f5 25 (by simp)).2.1, (l4.1 25 (by simp)).2.1, (frA.1 25 (by simp)).2.1]
        · rw [(f5 0 (by simp)).1, l4.2.2.1 5 (by decide), frA.2.2.1]
        · rw [(f5 0 (by simp)).1, l4.2.2.1 13 (by decide), frA.2.2.2.1]
        · rw [(f5 0 (by simp)).1, l4.2.2.1 14 (by decide), frA.2.2.2.2]
      have hr5 : pI_r ν5 a := ⟨by rw [row1]; exact hr.1, pr_schedF u2.2 f5 (fun j a1 a2 => by simp <;> omega)⟩
      -- the class
      have fz : pq_fr [69, 70, 71] μ m2 := pq_frT f1 z10
      have hc2 : pI_c m2 a (pr_st ν) := pI_cF hc fz (by simp)
      have hk2 : pK_c μ m2 := pK_cF fz (by simp)
      have fin2 := pI_mk hv hS hx hc2 hk2 hr5 hkr
      have esz : m2.1 (99 + 2 * t) 2 = nI sz := by rw [(fz (99 + 2 * t) (by simp <;> omega)).1]; exact t8
      simp only [esz]
      by_cases c0 : p2 = 0
      · rw [if_pos c0, if_pos c0]
        rcases z6 with ⟨d1, d2⟩ | ⟨d1, d2, d3⟩
        · rw [if_pos d2, if_pos (nI_le (by omega) (by omega))]; exact ⟨_, _, _, rfl, rfl, fin2⟩
        · rw [if_neg d2, if_neg (nI_ge (by omega) (by omega))]; exact ⟨_, _, _, rfl, rfl, fin2⟩
      rw [if_neg c0, if_neg c0]
      by_cases c1 : p2 = 1
      · rw [if_pos c1, if_pos c1]
        rcases z6 with ⟨d1, d2⟩ | ⟨d1, d2, d3⟩
        · rw [d2, if_pos (nI_le (by omega) (by omega))]; exact ⟨_, _, _, rfl, rfl, fin2⟩
        · rw [if_neg (nI_ge (by omega) (by omega)), pq_ixE (by omega) (by decide), d3, pq_bnd2]; exact ⟨_, _, _, rfl, rfl, fin2⟩
      rw [if_neg c1, if_neg c1]
      by_cases c2 : p2 = 2
      · rw [if_pos c2, if_pos c2, pc_rateSum hv y1 y2.2.1, pq_bndS]
        exact ⟨_, _, _, rfl, rfl, fin2⟩
      rw [if_neg c2, if_neg c2]
      unfold f_X11_lastFactorTried f_X1_lastFactor
      obtain ⟨m3, m4, x1, x2, x3, x4, x5, x6⟩ := pc_tryC hv hc2 (o0 := 69) (Or.inr rfl) (st2 8) (s0 := st2) y2.2.1
      have q90 : m4.1 (88 + 2) (pL a) = iI (pFac a (pCnt a st2 (st2 8)) (pL a)) := x5.2.2 (pL a) (Nat.le_refl _)
      rw [y2.1, x1, pq_bndS, x2, pq_bndS, x3.2.2.2.1.2.1.1, nI_pred, pq_ixE (by omega) (by decide), nI_clamp (by omega), q90, pq_bndS, pq_bnd2]
      exact ⟨_, _, _, rfl, rfl, pI_mk hv hS hx x3 (pK_cT hk2 x4) hr5 hkr⟩
    · rw [t5, t7, pq_bndS, pq_bndS, if_pos rfl, if_neg (show ¬ (-6 : Int32) = 0 by decide), t2, pq_ixE (by omega) (by decide), nI_clamp (by omega), t6, pq_bndS, if_neg (show ¬ (1 : Int32) = 0 by decide)]
      exact ⟨_, _, _, rfl, rfl, fin⟩
    · rw [t5, t7, pq_bndS, pq_bndS, if_neg (show ¬ (1 : Int32) = 0 by decide), if_neg (show ¬ (-2 : Int32) = 0 by decide)]
      exact ⟨_, _, _, rfl, rfl, fin⟩
  · rw [Int32.toInt_toInt64, a0, a3] at g1
    rw [g3, pq_bndS, if_pos rfl]
    have hcl : (if p2 < 0 then some ((-2 : Int32), μ) else if p2 ≤ 3 then (zz_ix p1 4 (zz_bndR (f_X10_isMissing (99 + 2 * p1.toNatClampNeg) μ) fun r3 => if r3 = 0 then none else none) : Option (Int32 × zz_Mem)) else some ((-2 : Int32), μ)) = some ((-2 : Int32), μ) := by
      by_cases c : p2 < 0
      · rw [if_pos c]
      · rw [if_neg c]; rw [pi_neg] at c; rw [if_neg (show ¬ p2 ≤ 3 by rw [l3, pi_nle (by decide)]; omega)]
    have hor : p2 < 0 ∨ (¬ p2 < 0 ∧ ¬ p2 ≤ 3) := by
      by_cases c : p2 < 0
      · exact Or.inl c
      · refine Or.inr ⟨c, ?_⟩; rw [pi_neg] at c; rw [l3, pi_nle (by decide)]; omega
    rcases pt_no htr p1 with ⟨t, sz, so, t1, t2, t3, t4, t5, -⟩ | ⟨t, t1, t2, t5, -⟩ | ⟨t5, -⟩
    · rw [t5, pq_bndS, if_pos rfl]
      rcases hor with c | ⟨c, c2⟩
      · rw [if_pos c]; exact ⟨_, _, _, rfl, rfl, fin⟩
      · rw [if_neg c, if_neg c2]; exact ⟨_, _, _, rfl, rfl, fin⟩
    · rw [t5, pq_bndS, if_pos rfl]
      rcases hor with c | ⟨c, c2⟩
      · rw [if_pos c]; exact ⟨_, _, _, rfl, rfl, fin⟩
      · rw [if_neg c, if_neg c2]; exact ⟨_, _, _, rfl, rfl, fin⟩
    · rw [t5, pq_bndS, if_neg (show ¬ (1 : Int32) = 0 by decide)]; exact ⟨_, _, _, rfl, rfl, fin⟩
/-- draws -/
def pdx (x : Int32) : Int32 := 1103515245 * x + 12345
def pdq (x : Int32) : Nat := x.toBitVec.toNat / 65536
theorem pdq_e (x : Int32) : (x.toUInt32 >>> ((16 : Int32).toUInt32 &&& Int32.toUInt32 31)).toInt32 = nI (pdq x) := by
  have h := pk_ushr x 16 16 (by decide)
  have hb : x.toBitVec.toNat < 2 ^ 32 := x.toBitVec.isLt
  apply Int32.toBitVec_inj.mp
  apply BitVec.eq_of_toNat_eq
  rw [h, pk_tn (by unfold pdq; omega)]
  rfl
theorem pdq_b (x : Int32) : pdq x < 65536 := by
  have hb : x.toBitVec.toNat < 2 ^ 32 := x.toBitVec.isLt
  unfold pdq; omega
def pdDeed (x : Int32) : Nat × Int32 :=
  if pdq (pdx x) % 4 = 0 then (10 + pdq (pdx (pdx x)) % 10, pdx (pdx x))
  else if pdq (pdx x) % 4 = 3 then (10000 + 2000 * (pdq (pdx (pdx x)) % 10) + pdq (pdx (pdx (pdx x))) % 1999, pdx (pdx (pdx x)))
  else (1000 + 1000 * (pdq (pdx (pdx x)) % 8) + pdq (pdx (pdx (pdx x))) % 199, pdx (pdx (pdx x)))
theorem pd_c1 (m : zz_Mem) : f_X11_drawn m = some (nI (pdq (pdx (m.1 0 19))), zz_setI m 0 19 (pdx (m.1 0 19))) := by
  unfold f_X11_drawn
  rw [pq_letM, show (1103515245 : Int32) * m.1 0 19 + 12345 = pdx (m.1 0 19) from rfl, qx_isE, pdq_e]
theorem pd_r1 (m : zz_Mem) {b : Nat} (h0 : 0 < b) (hb : b < 100000) : f_X12_draw (nI b) m = some (nI (pdq (pdx (m.1 0 31)) % b), zz_setI m 0 31 (pdx (m.1 0 31))) := by
  have := pdq_b (pdx (m.1 0 31))
  unfold f_X12_draw
  rw [pq_letM, show (1103515245 : Int32) * m.1 0 31 + 12345 = pdx (m.1 0 31) from rfl, qx_isE, pdq_e, pq_nzE (nI_ne0 h0 (by omega)), pk_rem (by omega) h0 (by omega)]
theorem pd_set2 (m : zz_Mem) (i : Nat) (v w : Int32) : zz_setI (zz_setI m 0 i v) 0 i w = zz_setI m 0 i w := by
  unfold zz_setI
  congr 1
  funext k
  by_cases c : k = 0
  · subst c
    simp only [va_up, if_true]
    funext j
    unfold upd
    by_cases d : j = i
    · simp [d]
    · simp [d]
  · simp [va_up, c]
theorem pd_c (m : zz_Mem) : f_X11_drawnDeed m = some (nI (pdDeed (m.1 0 19)).1, zz_setI m 0 19 (pdDeed (m.1 0 19)).2) := by
  have l4 : (4 : Int32) = nI 4 := rfl
  have l10 : (10 : Int32) = nI 10 := rfl
  have l3 : (3 : Int32) = nI 3 := rfl
  have l8 : (8 : Int32) = nI 8 := rfl
  have l1999 : (1999 : Int32) = nI 1999 := rfl
  have l199 : (199 : Int32) = nI 199 := rfl
  have l10000 : (10000 : Int32) = nI 10000 := rfl
  have l2000 : (2000 : Int32) = nI 2000 := rfl
  have l1000 : (1000 : Int32) = nI 1000 := rfl
  have b1 := pdq_b (pdx (m.1 0 19))
  have b2 := pdq_b (pdx (pdx (m.1 0 19)))
  have b3 := pdq_b (pdx (pdx (pdx (m.1 0 19))))
  unfold f_X11_drawnDeed pdDeed
  rw [pd_c1, pq_bnd2, l4, pk_rem (by omega) (by decide) (by decide), pq_letI]
  by_cases c0 : pdq (pdx (m.1 0 19)) % 4 = 0
  · rw [if_pos (by rw [c0]; rfl), if_pos c0, pd_c1, pq_bnd2, qx_isE, l10, pk_rem (by omega) (by decide) (by decide), nI_add, pd_set2]
  · rw [if_neg (show ¬ nI (pdq (pdx (m.1 0 19)) % 4) = 0 from nI_ne0 (by omega) (by omega)), if_neg c0]
    by_cases c3 : pdq (pdx (m.1 0 19)) % 4 = 3
    · rw [if_pos (by rw [c3]; rfl), if_pos c3, pd_c1, pq_bnd2, qx_isE, l10, pk_rem (by omega) (by decide) (by decide), pq_letI, pd_c1, pq_bnd2, qx_isE, l1999, pk_rem (by omega) (by decide) (by decide), l2000, pk_mul, l10000, nI_add, nI_add, pd_set2, pd_set2]
    · rw [if_neg (by rw [l3, nI_eq (by omega) (by decide)]; exact c3), if_neg c3, pd_c1, pq_bnd2, qx_isE, l8, pk_rem (by omega) (by decide) (by decide), pq_letI, pd_c1, pq_bnd2, qx_isE, l199, pk_rem (by omega) (by decide) (by decide), l1000, pk_mul, nI_add, nI_add, pd_set2, pd_set2]
theorem pd_r (m : zz_Mem) : f_X12_drawn m = some (nI (pdDeed (m.1 0 31)).1, zz_setI m 0 31 (pdDeed (m.1 0 31)).2) := by
  have l4 : (4 : Int32) = nI 4 := rfl
  have l10 : (10 : Int32) = nI 10 := rfl
  have l3 : (3 : Int32) = nI 3 := rfl
  have l8 : (8 : Int32) = nI 8 := rfl
  have l1999 : (1999 : Int32) = nI 1999 := rfl
  have l199 : (199 : Int32) = nI 199 := rfl
  have l10000 : (10000 : Int32) = nI 10000 := rfl
  have l2000 : (2000 : Int32) = nI 2000 := rfl
  have l1000 : (1000 : Int32) = nI 1000 := rfl
  unfold f_X12_drawn pdDeed f_X12_drawn_40
  rw [l4, pd_r1 m (by decide) (by decide), pq_bnd2]
  by_cases c0 : pdq (pdx (m.1 0 31)) % 4 = 0
  · rw [if_pos (by rw [c0]; rfl), if_pos c0, l10, pd_r1 _ (by decide) (by decide), pq_bnd2, qx_isE, nI_add, pd_set2]
  · rw [if_neg (show ¬ nI (pdq (pdx (m.1 0 31)) % 4) = 0 from nI_ne0 (by omega) (by omega)), if_neg c0]
    by_cases c3 : pdq (pdx (m.1 0 31)) % 4 = 3
    · have cc : (3 : Int32) ≤ nI (pdq (pdx (m.1 0 31)) % 4) := by rw [c3]; decide
      rw [if_pos cc, if_pos c3, l10, pd_r1 _ (by decide) (by decide), pq_bnd2, if_pos cc, l1999, pd_r1 _ (by decide) (by decide), pq_bnd2, qx_isE, qx_isE, l2000, pk_mul, l10000, nI_add, nI_add, pd_set2, pd_set2]
    · have cc : ¬ (3 : Int32) ≤ nI (pdq (pdx (m.1 0 31)) % 4) := by rw [l3]; exact nI_ge (by omega) (by omega)
      rw [if_neg cc, if_neg c3, l8, pd_r1 _ (by decide) (by decide), pq_bnd2, if_neg cc, l199, pd_r1 _ (by decide) (by decide), pq_bnd2, qx_isE, qx_isE, l1000, pk_mul, nI_add, nI_add, pd_set2, pd_set2]
