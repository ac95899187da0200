/-! ===== 68: movers, breaks; how the book hangs, how it is made flat ===== -/
def pMv (F G : Nat → Int32) : Nat → Nat → Int32 → Int32
  | 0, _, x => x
  | r + 1, k, x => pMv F G r (k + 1) (if G k = F k then x else x ||| ((1 : Int32) <<< (nI k &&& 31)))
theorem op_moves : zL_op24 pI := by
  intro n μ ν p1 ⟨a, hv, hS, hc, hr, hx⟩
  obtain ⟨k0, r0, s0⟩ := pr_t0 hr 0 (by decide) 0
  unfold f_X11_moves f_X12_moves
  rw [pq_letM]
  generalize zz_setI ν 0 0 0 = ν1 at *
  have fin := pI_mk hv hS hx hc (pK_c0 μ) r0 k0
  have hfu : zz_fuel = 5000 := rfl
  have hL8 := (pD_D hv).2.1
  rcases pi_input hv hc.1 r0 p1 with ⟨i, i1, i2, i3, i4, i5⟩ | ⟨i4, i5⟩
  · rw [i4, i5, pq_bndS, pq_bndS, if_neg (show ¬ (1 : Int32) = 0 by decide), if_neg (show ¬ (1 : Int32) = 0 by decide), i3]
    obtain ⟨ν2, e2, l2⟩ := pr_curveN hv r0
    obtain ⟨u1, u2, u3⟩ := pr_cwK l2 r0
    obtain ⟨μ2, e4, t4, t3, w3, w4, -⟩ := pc_trial hv hc i1 1
    rw [e4, e2, pq_bndS, pq_bndS]
    -- the reference keeps the factors
    have keep : ∀ (r k fuel : Nat) (m : zz_Mem), k + r = pL a + 1 → r < fuel → pq_fr [18] ν2 m → (∀ j, j < k → m.1 18 j = ν2.1 14 j) → ∃ m', f_X12_moves_23 fuel (nI i) (nI k) m = f_X12_moves_49 (nI i) m' ∧ pq_fr [18] ν2 m' ∧ ∀ j, j ≤ pL a → m'.1 18 j = ν2.1 14 j := by
      intro r
      induction r with
      | zero =>
        intro k fuel m h1 h2 f h3
        obtain ⟨fu, rfl⟩ : ∃ n, fuel = n + 1 := ⟨fuel - 1, by omega⟩
        rw [f_X12_moves_23, (f 0 (by simp)).1, l2.2.2.2.2.1.1.1, if_pos (nI_le (by omega) (by omega))]
        exact ⟨m, rfl, f, fun j hj => h3 j (by omega)⟩
      | succ r ih =>
        intro k fuel m h1 h2 f h3
        obtain ⟨fu, rfl⟩ : ∃ n, fuel = n + 1 := ⟨fuel - 1, by omega⟩
        rw [f_X12_moves_23, (f 0 (by simp)).1, l2.2.2.2.2.1.1.1, if_neg (nI_ge (by omega) (by omega)), pq_ixE (by omega) (by decide), pq_ixE (by omega) (by decide), nI_clamp (by omega), (f 14 (by simp)).1, pq_letM, pq_letI, nI_1]
        exact ih (k + 1) fu _ (by omega) (by omega) (pq_frI f _ _ (by simp)) (fun j hj => by
          by_cases c : j = k
          · rw [c, qx_isE]
          · rw [qx_isN c]; exact h3 j (by omega))
    obtain ⟨ν3, e3, f3, g3⟩ := keep (pL a + 1) 0 zz_fuel ν2 (by omega) (by omega) (pq_fr0 ν2) (fun j hj => absurd hj (Nat.not_lt_zero _))
    rw [nI_0] at e3
    have hr3 : pI_r ν3 a := ⟨by rw [(f3 1 (by simp)).1]; exact u2.1, pr_schedF u2.2 f3 (fun j a1 a2 => by simp <;> omega)⟩
    have hk3 : pK_r ν2 ν3 := pK_rF f3 (by simp) (by rw [(f3 0 (by simp)).1]) (by rw [(f3 0 (by simp)).1]) (by rw [(f3 0 (by simp)).1])
    have hs3 : pr_st ν3 = pr_st ν := by rw [← s0, ← u3]; unfold pr_st; rw [(f3 1 (by simp)).1]
    obtain ⟨ν4, e5, l5⟩ := pr_withN hv hr3 i1 1
    obtain ⟨v1, v2, v3⟩ := pr_cwK l5 hr3
    rw [e3]
    unfold f_X12_moves_49
    rw [e5, pq_bndS]
    have r18 : ∀ j, j ≤ pL a → ν4.1 18 j = iI (pFac a (pCn a (pr_st ν)) j) := fun j hj => by
      rw [(l5.1 18 (by simp)).1, g3 j hj, l2.2.2.2.2.1.1.2.2 j hj, s0]
    have r14 : ∀ j, j ≤ pL a → ν4.1 14 j = iI (pFac a (pCb (pCn a (pr_st ν)) i 1) j) := fun j hj => by
      rw [l5.2.2.2.2.1.1.2.2 j hj, hs3]
    have l0 : ∀ x : Int32, x ||| 0 = x := fun x => Int32.or_zero
    have loop : ∀ (r k fuel : Nat) (x : Int32), k + r = pL a + 1 → r < fuel → f_X11_moves_26 fuel x (nI k) μ2 = some (pMv (fun j => iI (pFac a (pCn a (pr_st ν)) j)) (fun j => iI (pFac a (pCb (pCn a (pr_st ν)) i 1) j)) r k x, μ2) ∧ f_X12_moves_59 fuel x (nI k) ν4 = some (pMv (fun j => iI (pFac a (pCn a (pr_st ν)) j)) (fun j => iI (pFac a (pCb (pCn a (pr_st ν)) i 1) j)) r k x, ν4) := by
      intro r
      induction r with
      | zero =>
        intro k fuel x h1 h2
        obtain ⟨fu, rfl⟩ : ∃ n, fuel = n + 1 := ⟨fuel - 1, by omega⟩
        rw [f_X11_moves_26, f_X12_moves_59, t3.2.2.2.1.2.1.1, l5.2.2.2.2.1.1.1, if_pos (nI_le (by omega) (by omega)), if_pos (nI_le (by omega) (by omega))]
        exact ⟨rfl, rfl⟩
      | succ r ih =>
        intro k fuel x h1 h2
        obtain ⟨fu, rfl⟩ : ∃ n, fuel = n + 1 := ⟨fuel - 1, by omega⟩
        have q85 : μ2.1 85 k = iI (pFac a (pCn a (pr_st ν)) k) := w3.2.2 k (by omega)
        have q90 : μ2.1 90 k = iI (pFac a (pCb (pCn a (pr_st ν)) i 1) k) := w4.2.2 k (by omega)
        rw [f_X11_moves_26, f_X12_moves_59, t3.2.2.2.1.2.1.1, l5.2.2.2.2.1.1.1, if_neg (nI_ge (by omega) (by omega)), if_neg (nI_ge (by omega) (by omega)), pMv]
        simp (disch := omega) only [qx_ix, qx_cl, q85, q90, r14 k (by omega), r18 k (by omega)]
        unfold f_X12_moves_90
        by_cases c : iI (pFac a (pCb (pCn a (pr_st ν)) i 1) k) = iI (pFac a (pCn a (pr_st ν)) k)
        · simp only [if_pos c, pq_letI, nI_1, l0]
          exact ih (k + 1) fu x (by omega) (by omega)
        · simp only [if_neg c, pq_letI, nI_1]
          exact ih (k + 1) fu _ (by omega) (by omega)
    obtain ⟨z1, z2⟩ := loop (pL a + 1) 0 zz_fuel 0 (by omega) (by omega)
    rw [nI_0] at z1 z2
    exact ⟨_, _, _, z1, z2, pI_mk hv hS hx t3 t4 v2 (pK_rT k0 (pK_rT u1 (pK_rT hk3 v1)))⟩
  · rw [i4, i5, pq_bndS, pq_bndS, if_pos rfl, if_pos rfl]; exact ⟨_, _, _, rfl, rfl, fin⟩
theorem op_mover : zL_op28 pI := by
  intro n μ ν ⟨a, hv, hS, hc, hr, hx⟩
  obtain ⟨k0, r0, s0⟩ := pr_t0 hr 0 (by decide) 0
  unfold f_X11_mover f_X12_mover
  rw [pq_letM]
  generalize zz_setI ν 0 0 0 = ν1 at *
  have hfu : zz_fuel = 5000 := rfl
  have h8 := (pN_b hv).1
  obtain ⟨ν2, e2, u1, u2, u3⟩ := pr_worthNow hv r0
  rw [e2, pq_bnd2, s0]
  have key : ∀ (r i fuel : Nat) (best : Int32) (most : Int64) (μ1 ν3 : zz_Mem), i + r = pN a → r < fuel → pI_c μ1 a (pr_st ν) → pI_r ν3 a → pr_st ν3 = pr_st ν → ∃ x μ' ν', f_X11_mover_9 fuel best most (nI i) μ1 = some (x, μ') ∧ f_X12_mover_20 fuel best most (pW a (pCn a (pr_st ν)) (pr_st ν)) (nI i) ν3 = some (x, ν') ∧ pI_c μ' a (pr_st ν) ∧ pK_c μ1 μ' ∧ pI_r ν' a ∧ pK_r ν3 ν' := by
    intro r
    induction r with
    | zero =>
      intro i fuel best most μ1 ν3 h1 h2 hc1 hr1 hs1
      obtain ⟨fu, rfl⟩ : ∃ n, fuel = n + 1 := ⟨fuel - 1, by omega⟩
      have e5 : μ1.1 2 5 = nI (pN a) := hc1.1.2.2.2.2.1.trans (pN_b hv).2
      have e4 : ν3.1 1 4 = nI (pN a) := (hr1.1 4 (by omega)).trans (pN_b hv).2
      rw [f_X11_mover_9, f_X12_mover_20, e5, e4, if_pos (nI_le (by omega) (by omega)), if_pos (nI_le (by omega) (by omega))]
      exact ⟨_, _, _, rfl, rfl, hc1, pK_c0 _, hr1, pK_r0 _⟩
    | succ r ih =>
      intro i fuel best most μ1 ν3 h1 h2 hc1 hr1 hs1
      obtain ⟨fu, rfl⟩ : ∃ n, fuel = n + 1 := ⟨fuel - 1, by omega⟩
      have e5 : μ1.1 2 5 = nI (pN a) := hc1.1.2.2.2.2.1.trans (pN_b hv).2
      have e4 : ν3.1 1 4 = nI (pN a) := (hr1.1 4 (by omega)).trans (pN_b hv).2
      obtain ⟨μ2, q4, t4, t3, w3, w4, -⟩ := pc_trial hv hc1 (show i < pN a by omega) 1
      obtain ⟨ν4, q5, v1, v2, v3⟩ := pr_worthWith hv hr1 (show i < pN a by omega) 1
      rw [f_X11_mover_9, f_X12_mover_20, e5, e4, if_neg (nI_ge (by omega) (by omega)), if_neg (nI_ge (by omega) (by omega)), q4, q5, pq_bndS, pq_bnd2, pc_worth hv (fun i _ => pCb_b (pCn_b _ _ i)) t3 w4, pc_worth hv (fun i _ => pCn_b _ _ i) t3 w3, pq_bndS, pq_bndS, pq_letJ, hs1]
      generalize pW a (pCb (pCn a (pr_st ν)) i 1) (pr_st ν) - pW a (pCn a (pr_st ν)) (pr_st ν) = y
      have goon : ∀ z : Int64, f_J9_abs_067f4 y = some z → ((if (0 : Int64) ≤ y then f_X12_mover_55 (f_X12_mover_20 fu) best most (pW a (pCn a (pr_st ν)) (pr_st ν)) (nI i) y ν4 else zz_letJ (-y) fun y4 => f_X12_mover_55 (f_X12_mover_20 fu) best most (pW a (pCn a (pr_st ν)) (pr_st ν)) (nI i) y4 ν4) = f_X12_mover_55 (f_X12_mover_20 fu) best most (pW a (pCn a (pr_st ν)) (pr_st ν)) (nI i) z ν4) := by
        intro z hz
        unfold f_J9_abs_067f4 at hz
        by_cases c : (0 : Int64) ≤ y
        · rw [if_pos c] at hz ⊢; rw [Option.some.inj hz]
        · rw [if_neg c] at hz ⊢; rw [pq_letJ, Option.some.inj hz]
      obtain ⟨z, hz⟩ : ∃ z, f_J9_abs_067f4 y = some z := by
        unfold f_J9_abs_067f4
        by_cases c : (0 : Int64) ≤ y
        · rw [if_pos c]; exact ⟨_, rfl⟩
        · rw [if_neg c]; exact ⟨_, rfl⟩
      rw [goon z hz, hz, pq_bndS]
      unfold f_X12_mover_55
      have hs4 : pr_st ν4 = pr_st ν := v3.trans hs1
      by_cases c : z ≤ most
      · have c' : ¬ most < z := by rw [Int64.le_iff_toInt_le] at c; rw [Int64.lt_iff_toInt_lt]; omega
        rw [if_pos c, if_neg c', pq_letI, pq_letI, nI_1]
        obtain ⟨x, μ', ν', z1, z2, z3, z4, z5, z6⟩ := ih (i + 1) fu best most μ2 ν4 (by omega) (by omega) t3 v2 hs4
        exact ⟨x, μ', ν', z1, z2, z3, pK_cT t4 z4, z5, pK_rT v1 z6⟩
      · have c' : most < z := by rw [Int64.le_iff_toInt_le] at c; rw [Int64.lt_iff_toInt_lt]; omega
        rw [if_neg c, if_pos c', pq_letI, pq_letI, nI_1]
        obtain ⟨x, μ', ν', z1, z2, z3, z4, z5, z6⟩ := ih (i + 1) fu (nI i) z μ2 ν4 (by omega) (by omega) t3 v2 hs4
        exact ⟨x, μ', ν', z1, z2, z3, pK_cT t4 z4, z5, pK_rT v1 z6⟩
  obtain ⟨x, μ', ν', z1, z2, z3, z4, z5, z6⟩ := key (pN a) 0 zz_fuel (-1) (-1) μ ν2 (by omega) (by omega) hc u2 (u3.trans s0)
  rw [nI_0] at z1 z2
  exact ⟨x, μ', ν', z1, z2, pI_mk hv hS hx z3 z4 z5 (pK_rT k0 (pK_rT u1 z6))⟩
/-- whether the worth is 0 or of the other sign -/
def pBk (w x : Int64) : Prop := x = 0 ∨ ¬ ((0 : Int64) ≤ x ↔ (0 : Int64) ≤ w)
theorem pBk_c {w x : Int64} (hw : ¬ w = 0) {k61 : Int32 → Int64 → Int32 → Int32 → zz_Mem → Option (Int32 × zz_Mem)} {v1 v4 v5 : Int32} {m : zz_Mem} : (pBk w x → (if x = (0 : Int64) then some (v5, m) else if x ≤ (0 : Int64) then f_X11_breaks_99 k61 v1 w v4 v5 (0 : Int32) m else f_X11_breaks_99 k61 v1 w v4 v5 (1 : Int32) m) = some (v5, m)) ∧ (¬ pBk w x → (if x = (0 : Int64) then some (v5, m) else if x ≤ (0 : Int64) then f_X11_breaks_99 k61 v1 w v4 v5 (0 : Int32) m else f_X11_breaks_99 k61 v1 w v4 v5 (1 : Int32) m) = k61 v1 w v4 (v5 + 1) m) := by
  have z0 : (0 : Int64).toInt = 0 := rfl
  have ne : ∀ y : Int64, ¬ y = 0 → y.toInt ≠ 0 := fun y hy e => hy (Int64.toInt_inj.mp (e.trans z0.symm))
  unfold pBk f_X11_breaks_99 f_X11_breaks_110
  by_cases c : x = 0
  · rw [if_pos c]; exact ⟨fun _ => rfl, fun h => absurd (Or.inl c) h⟩
  · rw [if_neg c]
    have n1 := ne x c
    have n2 := ne w hw
    by_cases d1 : x ≤ 0 <;> by_cases d2 : w ≤ 0
    all_goals
      simp only [d1, d2, if_true, if_false, pq_letI]
      rw [Int64.le_iff_toInt_le, z0] at d1 d2
      simp only [c, false_or, Int64.le_iff_toInt_le, z0]
    · exact ⟨fun h => absurd (by omega) h, fun _ => trivial⟩
    · exact ⟨fun _ => by rw [if_neg (by decide)], fun h => absurd (by omega) h⟩
    · exact ⟨fun _ => by rw [if_neg (by decide)], fun h => absurd (by omega) h⟩
    · exact ⟨fun h => absurd (by omega) h, fun _ => trivial⟩
theorem pBk_r {w x : Int64} (hw : ¬ w = 0) {k33 : Int32 → Int64 → Int32 → zz_Mem → Option (Int32 × zz_Mem)} {v1 v4 : Int32} {m : zz_Mem} : (pBk w x → (if x = (0 : Int64) then some (v4, m) else if (0 : Int64) ≤ x then f_X12_breaks_69 k33 v1 w v4 (0 : Int32) m else f_X12_breaks_69 k33 v1 w v4 (1 : Int32) m) = some (v4, m)) ∧ (¬ pBk w x → (if x = (0 : Int64) then some (v4, m) else if (0 : Int64) ≤ x then f_X12_breaks_69 k33 v1 w v4 (0 : Int32) m else f_X12_breaks_69 k33 v1 w v4 (1 : Int32) m) = k33 v1 w (v4 + 1) m) := by
  unfold pBk f_X12_breaks_69 f_X12_breaks_80
  by_cases c : x = 0
  · rw [if_pos c]; exact ⟨fun _ => rfl, fun h => absurd (Or.inl c) h⟩
  · rw [if_neg c]
    by_cases d1 : (0 : Int64) ≤ x <;> by_cases d2 : (0 : Int64) ≤ w
    all_goals simp only [d1, d2, if_true, if_false, pq_letI, c, false_or, iff_self, not_true, false_implies, not_false_eq_true, true_implies, iff_false, iff_true, not_true_eq_false]
    · exact ⟨trivial, trivial⟩
    · exact ⟨by rw [if_neg (by decide)], trivial⟩
    · exact ⟨by rw [if_neg (by decide)], trivial⟩
    · exact ⟨trivial, trivial⟩
