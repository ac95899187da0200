/-! ===== 79: write, lists; feed ===== -/
theorem pc_put {o : Nat} {m : zz_Mem} {so : Nat} (hso : so ≤ 3) (h1 : m.1 o 1 = nI so) {j : Nat} (hj : j < 40) (v : Int64) : ∃ v', f_X10_put o (nI j) v m = some (zz_setJ m (o + 1) j v') ∧ f_X12_cut v (nI so) = some v' := by
  unfold f_X10_put f_X12_cut
  rw [pq_letI, h1]
  have l1 : (1 : Int32) = nI 1 := rfl
  have l2 : (2 : Int32) = nI 2 := rfl
  have : so = 0 ∨ so = 1 ∨ so = 2 ∨ so = 3 := by omega
  rcases this with rfl | rfl | rfl | rfl
  · rw [if_pos (show nI 0 = 0 from rfl), if_pos (show nI 0 = 0 from rfl), pq_ixE (by omega) (by decide), nI_clamp (by omega), pq_letM]; exact ⟨_, rfl, rfl⟩
  · rw [if_neg (show ¬ nI 1 = 0 by decide), if_neg (show ¬ nI 1 = 0 by decide), if_pos (show nI 1 = 1 from rfl), if_pos (show nI 1 = 1 from rfl), pq_ixE (by omega) (by decide), nI_clamp (by omega), pq_letM]; exact ⟨_, rfl, rfl⟩
  · rw [if_neg (show ¬ nI 2 = 0 by decide), if_neg (show ¬ nI 2 = 0 by decide), if_neg (show ¬ nI 2 = 1 by decide), if_neg (show ¬ nI 2 = 1 by decide), if_pos (show nI 2 = 2 from rfl), if_pos (show nI 2 = 2 from rfl), pq_ixE (by omega) (by decide), nI_clamp (by omega), pq_letM]; exact ⟨_, rfl, rfl⟩
  · rw [if_neg (show ¬ nI 3 = 0 by decide), if_neg (show ¬ nI 3 = 0 by decide), if_neg (show ¬ nI 3 = 1 by decide), if_neg (show ¬ nI 3 = 1 by decide), if_neg (show ¬ nI 3 = 2 by decide), if_neg (show ¬ nI 3 = 2 by decide), pq_ixE (by omega) (by decide), nI_clamp (by omega), pq_letM]; exact ⟨_, rfl, rfl⟩
theorem op_write : zL_op38 pI := by
  intro n μ ν p1 p2 p3 ⟨a, hv, hS, hc, hr, hx⟩
  have k0 := pr_t0 hr 0 (by decide) 0
  unfold f_X11_write f_X12_write
  rw [pq_letM]
  have htr : ∀ t, t < 4 → pX_tray μ (zz_setI ν 0 0 0) t := fun t ht => hx.2.1 t ht
  have hx1 := pI_xK hx (pK_c0 μ) k0.1
  have hS1 : pv_S a (pr_st (zz_setI ν 0 0 0)) := by rw [k0.2.2]; exact hS
  have hc1 : pI_c μ a (pr_st (zz_setI ν 0 0 0)) := by rw [k0.2.2]; exact hc
  have hr1 := k0.2.1
  have fin := pI_mk hv hS hx hc (pK_c0 μ) k0.2.1 k0.1
  generalize zz_setI ν 0 0 0 = ν1 at *
  have a0 : (0 : Int64).toInt = 0 := rfl
  have l1 : (1 : Int32) = nI 1 := rfl
  have l40 : (40 : Int32) = nI 40 := rfl
  rcases pt_no htr p1 with ⟨t, sz, so, t1, t2, t3, t4, t5, t6, t7, t8, t9, t10, t11, t12⟩ | ⟨t, t1, t2, t5, t6, t7⟩ | ⟨t5, t7⟩
  · rw [t5, t7, pq_bndS, pq_bndS, if_pos rfl, if_pos rfl, t2]
    simp (disch := omega) only [qx_ix, qx_cl]
    rw [t6, pq_bndS, if_pos rfl, t9, l1, qx_sl (by omega) (by decide)]
    have e9 : (lI ((sz : Int) - ((1 : Nat) : Int))).toInt = (sz : Int) - ((1 : Nat) : Int) := lI_t (by omega) (by omega)
    rcases pi_within p2.toInt64 0 (lI ((sz : Int) - ((1 : Nat) : Int))) with ⟨g1, g2, g3⟩ | ⟨g1, g3⟩
    · rw [Int32.toInt_toInt64, a0] at g1
      rw [Int32.toInt_toInt64, e9] at g2
      obtain ⟨j, j1, j2, j3⟩ := pi_to (x := p2) (by omega)
      obtain ⟨v', e1, e2⟩ := pc_put (o := 99 + 2 * t) t4 t10 (show j < 40 by omega) p3
      rw [g3, pq_bndS, if_neg (show ¬ (1 : Int32) = 0 by decide), if_neg (show ¬ p2 < 0 by rw [pi_neg]; omega), t8, if_pos (show p2 < nI sz by rw [pi_nlt (by omega)]; omega), j1, l40, pk_mul, nI_add]
      simp (disch := omega) only [qx_ix, qx_cl]
      rw [e1, t11, e2, pq_bndS, pq_bndS, pq_letM, qx_jsE, qx_jsE]
      refine ⟨_, _, _, rfl, rfl, pI_tray hv hS1 hc1 hr1 hx1 t1 (pq_frJ (pq_fr0 μ) _ _ (by simp)) (pq_frJ (pq_fr0 ν1) _ _ (by simp)) (fun j' _ => ⟨rfl, rfl⟩) (fun j' hj' => qx_jsN (by omega)) (Or.inr ⟨sz, so, t3, t4, t8, t9, t10, t11, fun j' hj' => ?_⟩)⟩
      by_cases c : j' = j
      · rw [c, qx_jsE, qx_jsE]
      · rw [qx_jsN c, qx_jsN (by omega)]; exact t12 j' hj'
    · rw [Int32.toInt_toInt64, a0, e9] at g1
      rw [g3, pq_bndS, if_pos rfl]
      by_cases c : p2 < 0
      · rw [if_pos c]; exact ⟨_, _, _, rfl, rfl, fin⟩
      · rw [if_neg c, t8]
        rw [pi_neg] at c
        rw [if_neg (show ¬ p2 < nI sz by rw [pi_nlt (by omega)]; omega)]; exact ⟨_, _, _, rfl, rfl, fin⟩
  · rw [t5, t7, pq_bndS, pq_bndS, if_pos rfl, if_neg (show ¬ (-6 : Int32) = 0 by decide), t2, pq_ixE (by omega) (by decide), nI_clamp (by omega), t6, pq_bndS, if_neg (show ¬ (1 : Int32) = 0 by decide)]
    exact ⟨_, _, _, rfl, rfl, fin⟩
  · rw [t5, t7, pq_bndS, pq_bndS, if_neg (show ¬ (1 : Int32) = 0 by decide), if_neg (show ¬ (-2 : Int32) = 0 by decide)]
    exact ⟨_, _, _, rfl, rfl, fin⟩
theorem op_lists : zL_op39 pI := by
  intro n μ ν p1 ⟨a, hv, hS, hc, hr, hx⟩
  have k0 := pr_t0 hr 0 (by decide) 0
  unfold f_X11_lists f_X12_lists
  rw [pq_letM]
  have htr : ∀ t, t < 4 → pX_tray μ (zz_setI ν 0 0 0) t := fun t ht => hx.2.1 t ht
  have fin := pI_mk hv hS hx hc (pK_c0 μ) k0.2.1 k0.1
  generalize zz_setI ν 0 0 0 = ν1 at *
  have hfu : zz_fuel = 5000 := rfl
  have hL8 := (pD_D hv).2.1
  have l40 : (40 : Int32) = nI 40 := rfl
  rcases pt_no htr p1 with ⟨t, sz, so, t1, t2, t3, t4, t5, t6, t7, t8, t9, t10, t11, t12⟩ | ⟨t, t1, t2, t5, t6, t7⟩ | ⟨t5, t7⟩
  · obtain ⟨ν2, e2, l2⟩ := pr_curveN hv k0.2.1
    obtain ⟨u1, u2, u3⟩ := pr_cwK l2 k0.2.1
    obtain ⟨μ1, e1, q2, q1, w1, q3, fN⟩ := pc_solvedNow hv hc
    have kr := pK_rT k0.1 u1
    have us : pr_st ν2 = pr_st ν := u3.trans k0.2.2
    have hx1 := pI_xK hx q2 kr
    have w24 : ν2.1 24 t = nI sz := by rw [u1.1 24 (by omega)]; exact t9
    have w23 : ν2.1 23 t = nI so := by rw [u1.1 23 (by omega)]; exact t11
    have w8 : μ1.1 (99 + 2 * t) 2 = nI sz := by rw [(fN (99 + 2 * t) (by simp <;> omega)).1]; exact t8
    have w10 : μ1.1 (99 + 2 * t) 1 = nI so := by rw [(fN (99 + 2 * t) (by simp <;> omega)).1]; exact t10
    have w12 : ∀ j, j < sz → μ1.2.1 (99 + 2 * t + 1) j = ν2.2.1 25 (40 * t + j) := fun j hj => by rw [(fN (99 + 2 * t + 1) (by simp <;> omega)).2.1, u1.2.1]; exact t12 j hj
    rw [t5, t7, pq_bndS, pq_bndS, if_pos rfl, if_pos rfl, t2, pq_ixE (by omega) (by decide), nI_clamp (by omega), t6, pq_bndS, if_pos rfl, e2, pq_bndS, e1, t8, hc.2.2.2.1.2.1.1, l2.2.2.2.2.1.1.1, w24]
    simp (disch := omega) only [qx_ix]
    have key : ∀ mn, mn ≤ sz → mn ≤ pL a + 1 → ∃ r μ' ν', f_X11_lists_54 zz_fuel (nI t) (nI mn) 0 μ1 = some (r, μ') ∧ f_X12_lists_51 zz_fuel (nI t) (nI mn) 0 ν2 = some (r, ν') ∧ pI n μ' ν' := by
      intro mn hmn hmn2
      have loop : ∀ (r k fuel : Nat) (m ν' : zz_Mem), k + r = mn → r < fuel → pq_fr [99 + 2 * t + 1] μ1 m → m.1 = μ1.1 → pq_fr [25] ν2 ν' → (∀ j, j < sz → m.2.1 (99 + 2 * t + 1) j = ν'.2.1 25 (40 * t + j)) → (∀ j, (j < 40 * t ∨ 40 * t + 40 ≤ j) → ν'.2.1 25 j = ν2.2.1 25 j) → ∃ m2 ν3, f_X11_lists_54 fuel (nI t) (nI mn) (nI k) m = some (nI mn, m2) ∧ f_X12_lists_51 fuel (nI t) (nI mn) (nI k) ν' = some (nI mn, ν3) ∧ pq_fr [99 + 2 * t + 1] μ1 m2 ∧ m2.1 = μ1.1 ∧ pq_fr [25] ν2 ν3 ∧ (∀ j, j < sz → m2.2.1 (99 + 2 * t + 1) j = ν3.2.1 25 (40 * t + j)) ∧ ∀ j, (j < 40 * t ∨ 40 * t + 40 ≤ j) → ν3.2.1 25 j = ν2.2.1 25 j := by
        intro r
        induction r with
        | zero =>
          intro k fuel m ν' h1 h2 f fm g h3 h4
          obtain ⟨fu, rfl⟩ : ∃ n, fuel = n + 1 := ⟨fuel - 1, by omega⟩
          rw [f_X11_lists_54, f_X12_lists_51, if_pos (nI_le (by omega) (by omega)), if_pos (nI_le (by omega) (by omega))]
          exact ⟨m, ν', rfl, rfl, f, fm, g, h3, h4⟩
        | succ r ih =>
          intro k fuel m ν' h1 h2 f fm g h3 h4
          obtain ⟨fu, rfl⟩ : ∃ n, fuel = n + 1 := ⟨fuel - 1, by omega⟩
          have x1 : m.1 85 k = iI (pFac a (pCn a (pr_st ν)) k) := by rw [fm]; exact w1.2.2 k (by omega)
          have x2 : ν'.1 14 k = iI (pFac a (pCn a (pr_st ν)) k) := by rw [(g 14 (by simp)).1, ← k0.2.2]; exact l2.2.2.2.2.1.1.2.2 k (by omega)
          obtain ⟨v', p1', p2'⟩ := pc_put (o := 99 + 2 * t) (m := m) t4 (by rw [fm]; exact w10) (show k < 40 by omega) (iI (pFac a (pCn a (pr_st ν)) k)).toInt64
          have w23' : ν'.1 23 t = nI so := by rw [(g 23 (by simp)).1]; exact w23
          rw [f_X11_lists_54, f_X12_lists_51, if_neg (nI_ge (by omega) (by omega)), if_neg (nI_ge (by omega) (by omega)), l40, pk_mul, nI_add]
          simp (disch := omega) only [qx_ix, qx_cl, x1, x2, w23', p1', p2', pq_bndS, pq_letM, pq_letI, nI_1]
          exact ih (k + 1) fu _ _ (by omega) (by omega) (pq_frJ f _ _ (by simp)) fm (pq_frJ g _ _ (by simp)) (fun j hj => by
            by_cases c : j = k
            · rw [c, qx_jsE, qx_jsE]
            · rw [qx_jsN c, qx_jsN (by omega)]; exact h3 j hj) (fun j hj => by rw [qx_jsN (by omega)]; exact h4 j hj)
      obtain ⟨m2, ν3, z1, z2, z3, z4, z5, z6, z7⟩ := loop mn 0 zz_fuel μ1 ν2 (by omega) (by omega) (pq_fr0 _) rfl (pq_fr0 _) w12 (fun _ _ => rfl)
      rw [nI_0] at z1 z2
      refine ⟨_, _, _, z1, z2, pI_tray hv (by rw [us]; exact hS) (by rw [us]; exact q1) u2 hx1 t1 (pq_frW z3 (by simp)) (pq_frW z5 (by simp)) (fun j _ => ⟨by rw [(z5 23 (by simp)).1], by rw [(z5 24 (by simp)).1]⟩) z7 (Or.inr ⟨sz, so, t3, t4, by rw [z4]; exact w8, by rw [(z5 24 (by simp)).1]; exact w24, by rw [z4]; exact w10, by rw [(z5 23 (by simp)).1]; exact w23, z6⟩)⟩
    by_cases c : sz ≤ pL a + 1
    · have hm : f_J9_min_7cf53 (nI (pL a + 1)) (nI sz) = some (nI sz) := by
        unfold f_J9_min_7cf53
        by_cases c2 : sz < pL a + 1
        · rw [if_pos (nI_lt c2 (by omega))]
        · rw [if_neg (nI_nlt (by omega) (by omega)), show pL a + 1 = sz by omega]
      rw [hm, pq_bndS, pq_bndS, if_pos (nI_le c (by omega)), pq_letI]
      exact key sz (Nat.le_refl _) c
    · have hm : f_J9_min_7cf53 (nI (pL a + 1)) (nI sz) = some (nI (pL a + 1)) := by
        unfold f_J9_min_7cf53
        rw [if_neg (nI_nlt (by omega) (by omega))]
      rw [hm, pq_bndS, pq_bndS, if_neg (nI_ge (by omega) (by omega)), pq_letI]
      exact key (pL a + 1) (by omega) (Nat.le_refl _)
  · rw [t5, t7, pq_bndS, pq_bndS, if_pos rfl, if_neg (show ¬ (-6 : Int32) = 0 by decide), t2, pq_ixE (by omega) (by decide), nI_clamp (by omega), t6, pq_bndS, if_neg (show ¬ (1 : Int32) = 0 by decide)]
    exact ⟨_, _, _, rfl, rfl, fin⟩
  · rw [t5, t7, pq_bndS, pq_bndS, if_neg (show ¬ (1 : Int32) = 0 by decide), if_neg (show ¬ (-2 : Int32) = 0 by decide)]
    exact ⟨_, _, _, rfl, rfl, fin⟩
/-- bytes of a word -/
def pby (w : Int32) (i : Nat) : Nat := w.toBitVec.toNat / 2 ^ (24 - 8 * i) % 256
theorem pby_b (w : Int32) (i : Nat) : pby w i < 256 := Nat.mod_lt _ (by decide)
theorem pby_8 (y : Int32) : y.toInt8.toInt32 &&& 255 = nI (y.toBitVec.toNat % 256) := by
  rw [pk_and _ 8 (by decide)]
  congr 1
  have h : (y.toInt8.toInt32).toBitVec = (y.toBitVec.setWidth 8).signExtend 32 := by rw [Int8.toBitVec_toInt32, Int32.toBitVec_toInt8, BitVec.signExtend_eq_setWidth_of_le _ (show 8 ≤ 32 by decide)]
  rw [h, BitVec.toNat_signExtend]
  have e : ((y.toBitVec.setWidth 8).setWidth 32).toNat = y.toBitVec.toNat % 256 := by
    simp [BitVec.toNat_setWidth]
    omega
  rw [e]
  split
  · omega
  · omega
theorem pby_c (w : Int32) {i : Nat} (hi : i < 4) : vp_nar .byte (((w.toUInt32 >>> ((nI (24 - 8 * i)).toUInt32 &&& Int32.toUInt32 31)).toInt32).toInt8.toInt32) &&& 255 = nI (pby w i) := by
  have hs : (((nI (24 - 8 * i)).toUInt32 &&& Int32.toUInt32 31).toBitVec % 32).toNat = 24 - 8 * i := by
    have : i = 0 ∨ i = 1 ∨ i = 2 ∨ i = 3 := by omega
    rcases this with rfl | rfl | rfl | rfl <;> decide
  rw [pk_vb, pby_8, pk_ushr _ _ _ hs]
  rfl
theorem pby_r (w : Int32) {i : Nat} (hi : i < 4) : (w >>> (nI (24 - 8 * i) &&& 31)) &&& 255 = nI (pby w i) := by
  have hs : ((nI (24 - 8 * i) &&& 31).toBitVec.smod 32).toNat = 24 - 8 * i := by
    have : i = 0 ∨ i = 1 ∨ i = 2 ∨ i = 3 := by omega
    rcases this with rfl | rfl | rfl | rfl <;> decide
  rw [pk_and _ 8 (by decide)]
  congr 1
  have h := pk_shr w (nI (24 - 8 * i) &&& 31) (24 - 8 * i) hs
  have hb : w.toBitVec.toNat < 2 ^ 32 := w.toBitVec.isLt
  have e1 : w.toInt = if 2 * w.toBitVec.toNat < 2 ^ 32 then (w.toBitVec.toNat : Int) else (w.toBitVec.toNat : Int) - (2 ^ 32 : Nat) := BitVec.toInt_eq_toNat_cond _
  generalize hx : w >>> (nI (24 - 8 * i) &&& 31) = x at *
  have e2 : x.toInt = if 2 * x.toBitVec.toNat < 2 ^ 32 then (x.toBitVec.toNat : Int) else (x.toBitVec.toNat : Int) - (2 ^ 32 : Nat) := BitVec.toInt_eq_toNat_cond _
  have hb2 : x.toBitVec.toNat < 2 ^ 32 := x.toBitVec.isLt
  rw [Int.shiftRight_eq_div_pow] at h
  unfold pby
  have : i = 0 ∨ i = 1 ∨ i = 2 ∨ i = 3 := by omega
  rcases this with rfl | rfl | rfl | rfl
  all_goals
    simp only [Nat.reduceMul, Nat.reduceSub, Nat.reducePow] at *
    split at e1 <;> split at e2 <;> omega
