/-! ===== 99m: holidays and flows ===== -/
theorem ln_holiday {B : Nat → Nat} {len : Nat} : pLn B len 4 f_X7_readHoliday f_X12_readHoliday := by
  intro p μ ν H I Fl N l ho ht ⟨⟨h1, h2, h3, h4⟩, g2, g3, g4, gh⟩ hN
  have l12 : (12 : Int32) = nI 12 := rfl
  unfold f_X7_readHoliday f_X12_readHoliday f_X12_readHoliday_18
  rw [pq_letI, pq_letI, h1, h2]
  by_cases c : H = 12
  · subst c
    obtain ⟨μ2, ν2, y1, y2, y3, y4, y5⟩ := pj_failO ho (w := 4) (by omega)
    have y1' : f_X7_fail 4 μ = some μ2 := y1
    have y2' : f_X12_fails 4 ν = some ν2 := y2
    rw [if_neg (show ¬ nI 12 < 12 by decide), y1', pq_bndS, if_pos (show nI 12 = 12 from rfl), y2', pq_bndS, if_neg (pFld_x y5)]
    exact ⟨μ2, ν2, rfl, rfl, pWc_N (pWc0 μ) y3, pWr_Z (pWr0 ν) y4, Or.inr (Or.inr ⟨4, p, y5⟩)⟩
  · obtain ⟨μ2, ν2, y1, y2, y3, y4, y5⟩ := pq_next ho (by omega)
    obtain ⟨v, μ3, v', ν3, z1, z2, z3, z4, z5, z6⟩ := pq_number (c := 0) (d := 999) (c' := 0) (d' := 999) y5 (fun _ => ⟨rfl, rfl⟩)
    have n1 := pNxT y3 z3
    have n2 := pNzT y4 z4
    have e : ∀ k, k ≠ 30 → μ3.1 k = μ.1 k := fun k hk => (n1.1 k (by simp <;> omega)).1
    have er : ν3.1 4 = ν.1 4 := (n2.1 4 (by simp)).1
    rw [if_pos (show nI H < 12 by rw [l12]; exact nI_lt (by omega) (by omega)), y1, pq_bndS, z1, pq_bnd2, pq_ixE (by omega) (by decide), nI_clamp (by omega), pq_letM, nI_1, pq_letM, if_neg (show ¬ nI H = 12 by rw [l12, nI_eq (by omega) (by omega)]; exact c), if_pos (pOK_11 ho), y2, pq_bndS, z2, pq_bnd2, l12, nI_add, pq_ixE (by omega) (by decide), nI_clamp (by omega), pq_letM]
    have fc : pWc μ (zz_setI (zz_setI μ3 17 H v) 16 3 (nI (H + 1))) := pWc_I (pWc_I (pWc_N (pWc0 μ) n1) (by simp) _ _) (by simp) _ _
    by_cases fl : ν3.1 0 11 = 0
    · rw [if_pos (show (zz_setI ν3 4 (12 + H) v').1 0 11 = 0 from fl), qx_isN (show 3 ≠ 12 + H by omega), er, h2, nI_1, pq_letM]
      refine ⟨_, _, rfl, rfl, fc, pWr_I (pWr_I (pWr_Z (pWr0 ν) n2) _ _) _ _, pQd_mk (pQm_w (pQm_M z5 ⟨fun _ _ => rfl, rfl, rfl⟩ ⟨fun _ _ => rfl, rfl⟩) (by omega)) (fun p2 hp2 o2 => ?_)⟩
      obtain ⟨-, x, x1, x2, x3, -⟩ := z6 (show μ3.1 30 7 = 0 from pOK_7 o2)
      have hA : ∀ j, j ≠ 3 → j ≠ 12 + H → (zz_setI (zz_setI ν3 4 (12 + H) v') 4 3 (nI (H + 1))).1 4 j = ν.1 4 j := fun j j1 j2 => by rw [qx_isN j1, qx_isN j2, er]
      have hM : ∀ k, k ≠ 16 → k ≠ 17 → k ≠ 30 → (zz_setI (zz_setI μ3 17 H v) 16 3 (nI (H + 1))).1 k = μ.1 k := fun k k1 k2 k3 => by rw [qx_in k1, qx_in k2, e k k3]
      have hM16 : ∀ j, j ≠ 3 → (zz_setI (zz_setI μ3 17 H v) 16 3 (nI (H + 1))).1 16 j = μ.1 16 j := fun j j1 => by rw [qx_isN j1, qx_in (by decide), e 16 (by decide)]
      refine ⟨H + 1, I, Fl, N, ⟨⟨qx_isE, qx_isE, by omega, fun k hk => ?_⟩, pG2_C g2 (hM16 5 (by decide)) (hM 18 (by decide) (by decide) (by decide)) (hM 19 (by decide) (by decide) (by decide)) (hM 20 (by decide) (by decide) (by decide)) (hM 21 (by decide) (by decide) (by decide)) (hM 28 (by decide) (by decide) (by decide)) (fun j hj => hA j (by omega) (by omega)), pG3_C g3 (hM16 10 (by decide)) (hM 22 (by decide) (by decide) (by decide)) (hM 29 (by decide) (by decide) (by decide)) (fun j hj => hA j (by omega) (by omega)), pG4_C g4 (hM 23 (by decide) (by decide) (by decide)) (hM 24 (by decide) (by decide) (by decide)) (fun j hj => hA j (by omega) (by omega)), pDh_C gh (hM16 0 (by decide)) (hM16 1 (by decide)) (hM16 2 (by decide)) (by rw [hM 27 (by decide) (by decide) (by decide)]) (hA 0 (by omega) (by omega)) (hA 1 (by omega) (by omega)) (hA 2 (by omega) (by omega)) (hA 74 (by omega) (by omega)) (hA 85 (by omega) (by omega))⟩, by omega⟩
      by_cases ck : k = H
      · subst ck
        rw [qx_in (by decide), qx_isE, qx_isN (by omega), qx_isE, x2, x3]
      · rw [hA _ (by omega) (by omega), qx_in (by decide), qx_isN ck, e 17 (by decide)]
        exact h4 k (by omega)
    · rw [if_neg (show ¬ (zz_setI ν3 4 (12 + H) v').1 0 11 = 0 from fl)]
      exact ⟨_, _, rfl, rfl, fc, pWr_I (pWr_Z (pWr0 ν) n2) _ _, pQd_mk (pQm_w (pQm_M z5 ⟨fun _ _ => rfl, rfl, rfl⟩ ⟨fun _ _ => rfl, rfl⟩) (by omega)) (fun p2 hp2 o2 => absurd (pOK_11 o2) fl)⟩
/-- plus or minus -/
theorem pq_pm {B : Nat → Nat} {len e : Nat} {μ ν : zz_Mem} (h : pQm B len e μ ν) : ∃ b μ2 ν2, f_X7_isWord 12 μ = some (pd_b b) ∧ f_X12_is ν 12 = some (pd_b b) ∧ f_X7_takeWord (if b then 12 else 13) μ = some μ2 ∧ (∀ (τ : Type) (K : zz_Mem → Option τ), (zz_bnd (f_X12_eats 11 ν) fun r6 m7 => if r6 = 0 then (zz_bnd (f_X12_eats 12 m7) fun r8 m9 => if r8 = 0 then zz_bndR (f_X12_fails 2 m9) K else K m9) else K m7) = K ν2) ∧ pNx μ μ2 ∧ pNz ν ν2 ∧ pQm B len (e + 1) μ2 ν2 ∧ (μ2.1 30 7 = 0 → μ.1 30 7 = 0) := by
  rcases h with ⟨p, he, ho⟩ | ⟨p, hb⟩ | ⟨w, p, hf⟩
  · have w12 : f_X7_isWord 12 μ = some (pd_b (decide (pkK B len p = 12))) := pc_isW ho (w := 12) (by omega) (by omega)
    have i11 : f_X12_is ν 11 = some (pd_b (decide (pkK B len p = 11))) := pr_isO ho (k := 11) (by omega)
    have i12 : f_X12_is ν 12 = some (pd_b (decide (pkK B len p = 12))) := pr_isO ho (k := 12) (by omega)
    have t12 : f_X7_takeWord 12 μ = if pkK B len p = 12 then f_X7_next μ else f_X7_fail 2 μ := po_takeWord (w := 12) (by omega) (by omega) p μ ν ho
    have t13 : f_X7_takeWord 13 μ = if pkK B len p = 11 then f_X7_next μ else f_X7_fail 2 μ := po_takeWord (w := 13) (by omega) (by omega) p μ ν ho
    have e7 := pOK_7 ho
    by_cases c12 : pkK B len p = 12
    · obtain ⟨μ2, ν2, y1, y2, y3, y4, y5⟩ := pq_next ho (by omega)
      rw [decide_eq_true c12] at w12 i12
      rw [decide_eq_false (by omega)] at i11
      refine ⟨true, μ2, ν2, w12, i12, ?_, fun τ K => ?_, y3, y4, pQm_w y5 (by omega), fun _ => e7⟩
      · rw [if_pos rfl, t12, if_pos c12, y1]
      · unfold f_X12_eats
        rw [i11, pq_bndS, if_pos (show pd_b false = 0 from rfl), pq_bnd2, if_pos rfl, i12, pq_bndS, if_neg (show ¬ pd_b true = 0 by decide), y2, pq_bndS, pq_bnd2, if_neg (by decide)]
    · rw [decide_eq_false c12] at w12 i12
      by_cases c11 : pkK B len p = 11
      · obtain ⟨μ2, ν2, y1, y2, y3, y4, y5⟩ := pq_next ho (by omega)
        rw [decide_eq_true c11] at i11
        refine ⟨false, μ2, ν2, w12, i12, ?_, fun τ K => ?_, y3, y4, pQm_w y5 (by omega), fun _ => e7⟩
        · rw [if_neg (by decide), t13, if_pos c11, y1]
        · unfold f_X12_eats
          rw [i11, pq_bndS, if_neg (show ¬ pd_b true = 0 by decide), y2, pq_bndS, pq_bnd2, if_neg (by decide)]
      · rw [decide_eq_false c11] at i11
        obtain ⟨μ2, ν2, y1, y2, y3, y4, y5⟩ := pj_failO ho (w := 2) (by omega)
        have y1' : f_X7_fail 2 μ = some μ2 := y1
        have y2' : f_X12_fails 2 ν = some ν2 := y2
        refine ⟨false, μ2, ν2, w12, i12, ?_, fun τ K => ?_, y3, y4, Or.inr (Or.inr ⟨2, p, y5⟩), fun _ => e7⟩
        · rw [if_neg (by decide), t13, if_neg c11, y1']
        · unfold f_X12_eats
          rw [i11, pq_bndS, if_pos (show pd_b false = 0 from rfl), pq_bnd2, if_pos rfl, i12, pq_bndS, if_pos (show pd_b false = 0 from rfl), pq_bnd2, if_pos rfl, y2', pq_bndS]
  · obtain ⟨μ2, y1, y2, y3⟩ := pc_fail (w0 := 2) hb.1
    obtain ⟨ν2, z1, z2, z3, z4⟩ := pr_failB 2 hb
    have y1' : f_X7_fail 2 μ = some μ2 := y1
    have z1' : f_X12_fails 2 ν = some ν2 := z1
    have i11 : f_X12_is ν 11 = some 0 := pr_isB hb (k := 11) (by omega) (by omega)
    have i12 : f_X12_is ν 12 = some 0 := pr_isB hb (k := 12) (by omega) (by omega)
    refine ⟨false, μ2, ν2, pc_isW0 hb.1 12, i12, ?_, fun τ K => ?_, y2, z2, Or.inr (Or.inr ⟨1, p, y3, z3, z4⟩), fun z => absurd z (pSto_n y3)⟩
    · rw [if_neg (by decide)]
      unfold f_X7_takeWord
      rw [pc_isW0 hb.1, pq_bndS, if_pos rfl, pu_bS, y1']
    · unfold f_X12_eats
      rw [i11, pq_bndS, if_pos rfl, pq_bnd2, if_pos rfl, i12, pq_bndS, if_pos rfl, pq_bnd2, if_pos rfl, z1', pq_bndS]
  · obtain ⟨μ2, y1, y2, y3⟩ := pc_fail (w0 := 2) hf.1
    have y1' : f_X7_fail 2 μ = some μ2 := y1
    have hx := pFld_x hf
    refine ⟨false, μ2, ν, pc_isW0 hf.1 12, fx_is hx 12, ?_, fun τ K => ?_, y2, pNz0 ν, Or.inr (Or.inr ⟨w, p, y3, hf.2⟩), fun z => absurd z (pSto_n y3)⟩
    · rw [if_neg (by decide)]
      unfold f_X7_takeWord
      rw [pc_isW0 hf.1, pq_bndS, if_pos rfl, pu_bS, y1']
    · rw [fx_eats hx, pq_bnd2, if_pos rfl, fx_eats hx, pq_bnd2, if_pos rfl, fx_fails hx, pq_bndS]
def pSgn (b : Bool) (v : Int32) : Int32 := if b then -v else v
theorem pSgn_t {b : Bool} {x : Nat} (hx : x ≤ 999) : -999 ≤ (pSgn b (nI x)).toInt ∧ (pSgn b (nI x)).toInt ≤ 999 := by
  have h : ∀ x, x < 1000 → (-999 ≤ (-(nI x)).toInt ∧ (-(nI x)).toInt ≤ 999) := by decide +kernel
  cases b
  · show -999 ≤ (nI x).toInt ∧ (nI x).toInt ≤ 999
    rw [nI_toInt (by omega)]; omega
  · exact h x (by omega)
theorem ln_flow {B : Nat → Nat} {len : Nat} : pLn B len 10 f_X7_readFlow f_X12_readFlow := by
  intro p μ ν H I Fl N l ho ht ⟨g1, g2, ⟨h1, h2, h3, h4⟩, g4, gh⟩ hN
  have l10 : (10 : Int32) = nI 10 := rfl
  have l56 : (56 : Int32) = nI 56 := rfl
  have l75 : (75 : Int32) = nI 75 := rfl
  unfold f_X7_readFlow f_X12_readFlow f_X12_readFlow_18
  rw [pq_letI, pq_letI, h1, h2]
  by_cases c : Fl = 10
  · subst c
    obtain ⟨μ2, ν2, y1, y2, y3, y4, y5⟩ := pj_failO ho (w := 4) (by omega)
    have y1' : f_X7_fail 4 μ = some μ2 := y1
    have y2' : f_X12_fails 4 ν = some ν2 := y2
    rw [if_neg (show ¬ nI 10 < 10 by decide), y1', pq_bndS, if_pos (show nI 10 = 10 from rfl), y2', pq_bndS, if_neg (pFld_x y5)]
    exact ⟨μ2, ν2, rfl, rfl, pWc_N (pWc0 μ) y3, pWr_Z (pWr0 ν) y4, Or.inr (Or.inr ⟨4, p, y5⟩)⟩
  · obtain ⟨μ2, ν2, y1, y2, y3, y4, y5⟩ := pq_next ho (by omega)
    obtain ⟨v, μ3, v', ν3, z1, z2, z3, z4, z5, z6⟩ := pq_number (c := 0) (d := 999) (c' := 0) (d' := 999) y5 (fun _ => ⟨rfl, rfl⟩)
    have n1 := pNxT y3 z3
    have n2 := pNzT y4 z4
    rw [if_pos (show nI Fl < 10 by rw [l10]; exact nI_lt (by omega) (by omega)), y1, pq_bndS, z1, pq_bnd2, pq_ixE (by omega) (by decide), nI_clamp (by omega), pq_letM, if_neg (show ¬ nI Fl = 10 by rw [l10, nI_eq (by omega) (by omega)]; exact c), if_pos (pOK_11 ho), y2, pq_bndS, z2, pq_bnd2, l56, nI_add, pq_ixE (by omega) (by decide), nI_clamp (by omega), pq_letM]
    have z5' : pQm B len (p + 1 + 1) (zz_setI μ3 22 Fl v) (zz_setI ν3 4 (56 + Fl) v') := pQm_M z5 ⟨fun _ _ => rfl, rfl, rfl⟩ ⟨fun _ _ => rfl, rfl⟩
    obtain ⟨b, μ4, ν4, w1, w2, w3, w4, w5, w6, w7, w8⟩ := pq_pm z5'
    obtain ⟨u, μ5, u', ν5, v1, v2, v3, v4, v5, v6⟩ := pq_number (c := 0) (d := 999) (c' := 0) (d' := 999) w7 (fun _ => ⟨rfl, rfl⟩)
    have e : ∀ k, k ≠ 30 → k ≠ 22 → μ5.1 k = μ.1 k := fun k hk hk2 => by rw [((pNxT w5 v3).1 k (by simp <;> omega)).1, qx_in hk2, (n1.1 k (by simp <;> omega)).1]
    have e22 : ∀ j, j ≠ Fl → μ5.1 22 j = μ.1 22 j := fun j hj => by rw [((pNxT w5 v3).1 22 (by simp)).1, qx_isN hj, (n1.1 22 (by simp)).1]
    have e22F : μ5.1 22 Fl = v := by rw [((pNxT w5 v3).1 22 (by simp)).1, qx_isE]
    have er : ∀ j, j ≠ 56 + Fl → ν5.1 4 j = ν.1 4 j := fun j hj => by rw [((pNzT w6 v4).1 4 (by simp)).1, qx_isN hj, (n2.1 4 (by simp)).1]
    have erF : ν5.1 4 (56 + Fl) = v' := by rw [((pNzT w6 v4).1 4 (by simp)).1, qx_isE]
    have eC : (zz_bndR (f_X7_isWord 12 (zz_setI μ3 22 Fl v)) fun r6 => if r6 = 0 then (zz_bndR (f_X7_takeWord 13 (zz_setI μ3 22 Fl v)) fun m7 => zz_bnd (f_X7_takeNumber 0 999 m7) fun r8 m9 => if r6 = 0 then f_X7_readFlow_93 (nI Fl) r8 (nI Fl) m9 else f_X7_readFlow_93 (nI Fl) (-r8) (nI Fl) m9) else (zz_bndR (f_X7_takeWord 12 (zz_setI μ3 22 Fl v)) fun m10 => zz_bnd (f_X7_takeNumber 0 999 m10) fun r11 m12 => if r6 = 0 then f_X7_readFlow_93 (nI Fl) r11 (nI Fl) m12 else f_X7_readFlow_93 (nI Fl) (-r11) (nI Fl) m12)) = f_X7_readFlow_93 (nI Fl) (pSgn b u) (nI Fl) μ5 := by
      rw [w1, pq_bndS]
      cases b with
      | true =>
        rw [if_neg (show ¬ pd_b true = 0 by decide)]
        rw [if_pos rfl] at w3
        rw [w3, pq_bndS, v1, pq_bnd2, if_neg (show ¬ pd_b true = 0 by decide)]; rfl
      | false =>
        rw [if_pos (show pd_b false = 0 from rfl)]
        rw [if_neg (by decide)] at w3
        rw [w3, pq_bndS, v1, pq_bnd2, if_pos (show pd_b false = 0 from rfl)]; rfl
    rw [eC, w2, pq_bndS]
    have eR := w4 _ (fun z => f_X12_readFlow_77 (nI Fl) (pd_b b) z)
    have eR' : f_X12_readFlow_77 (nI Fl) (pd_b b) ν4 = if ν5.1 0 11 = 0 then some (zz_setI (zz_setI ν5 4 (75 + Fl) (pSgn b u')) 4 5 (nI (Fl + 1))) else some ν5 := by
      unfold f_X12_readFlow_77 f_X12_readFlow_112
      rw [v2, pq_bnd2]
      by_cases fl : ν5.1 0 11 = 0
      · rw [if_pos fl, if_pos fl, l75, nI_add]
        cases b with
        | true =>
          rw [if_neg (show ¬ pd_b true = 0 by decide), pq_ixE (by omega) (by decide), nI_clamp (by omega), pq_letM, qx_isN (show 5 ≠ 75 + Fl by omega), er 5 (by omega), h2, nI_1, pq_letM]; rfl
        | false =>
          rw [if_pos (show pd_b false = 0 from rfl), pq_ixE (by omega) (by decide), nI_clamp (by omega), pq_letM, qx_isN (show 5 ≠ 75 + Fl by omega), er 5 (by omega), h2, nI_1, pq_letM]; rfl
      · rw [if_neg fl, if_neg fl]
    have eC' : f_X7_readFlow_93 (nI Fl) (pSgn b u) (nI Fl) μ5 = some (zz_setI (zz_setI μ5 29 Fl (pSgn b u)) 16 10 (nI (Fl + 1))) := by
      unfold f_X7_readFlow_93
      rw [pq_ixE (by omega) (by decide), nI_clamp (by omega), pq_letM, nI_1, pq_letM]
    rw [eC']
    have fc : pWc μ (zz_setI (zz_setI μ5 29 Fl (pSgn b u)) 16 10 (nI (Fl + 1))) := pWc_I (pWc_I (pWc_N (pWc_N (pWc_I (pWc_N (pWc0 μ) n1) (by simp) _ _) w5) v3) (by simp) _ _) (by simp) _ _
    have fr : pWr ν ν5 := pWr_Z (pWr_Z (pWr_I (pWr_Z (pWr0 ν) n2) _ _) w6) v4
    by_cases fl : ν5.1 0 11 = 0
    · rw [if_pos fl] at eR'
      refine ⟨_, _, rfl, eR.trans eR', fc, pWr_I (pWr_I fr _ _) _ _, pQd_mk (pQm_w (pQm_M v5 ⟨fun _ _ => rfl, rfl, rfl⟩ ⟨fun _ _ => rfl, rfl⟩) (by omega)) (fun p2 hp2 o2 => ?_)⟩
      obtain ⟨y7, x, x1, x2, x3, -⟩ := v6 (show μ5.1 30 7 = 0 from pOK_7 o2)
      obtain ⟨-, d, d1, d2, d3, -⟩ := z6 (show μ3.1 30 7 = 0 from w8 y7)
      have hA : ∀ j, j ≠ 5 → j ≠ 75 + Fl → j ≠ 56 + Fl → (zz_setI (zz_setI ν5 4 (75 + Fl) (pSgn b u')) 4 5 (nI (Fl + 1))).1 4 j = ν.1 4 j := fun j j1 j2 j3 => by rw [qx_isN j1, qx_isN j2, er j j3]
      have hM : ∀ k, k ≠ 16 → k ≠ 29 → k ≠ 22 → k ≠ 30 → (zz_setI (zz_setI μ5 29 Fl (pSgn b u)) 16 10 (nI (Fl + 1))).1 k = μ.1 k := fun k k1 k2 k3 k4 => by rw [qx_in k1, qx_in k2, e k k4 k3]
      have hM16 : ∀ j, j ≠ 10 → (zz_setI (zz_setI μ5 29 Fl (pSgn b u)) 16 10 (nI (Fl + 1))).1 16 j = μ.1 16 j := fun j j1 => by rw [qx_isN j1, qx_in (by decide), e 16 (by decide) (by decide)]
      refine ⟨H, I, Fl + 1, N, ⟨pG1_C g1 (hM16 3 (by decide)) (hM 17 (by decide) (by decide) (by decide) (by decide)) (fun j hj => hA j (by omega) (by omega) (by omega)), pG2_C g2 (hM16 5 (by decide)) (hM 18 (by decide) (by decide) (by decide) (by decide)) (hM 19 (by decide) (by decide) (by decide) (by decide)) (hM 20 (by decide) (by decide) (by decide) (by decide)) (hM 21 (by decide) (by decide) (by decide) (by decide)) (hM 28 (by decide) (by decide) (by decide) (by decide)) (fun j hj => hA j (by omega) (by omega) (by omega)), ⟨qx_isE, qx_isE, by omega, fun k hk => ?_⟩, pG4_C g4 (hM 23 (by decide) (by decide) (by decide) (by decide)) (hM 24 (by decide) (by decide) (by decide) (by decide)) (fun j hj => hA j (by omega) (by omega) (by omega)), pDh_C gh (hM16 0 (by decide)) (hM16 1 (by decide)) (hM16 2 (by decide)) (by rw [hM 27 (by decide) (by decide) (by decide) (by decide)]) (hA 0 (by omega) (by omega) (by omega)) (hA 1 (by omega) (by omega) (by omega)) (hA 2 (by omega) (by omega) (by omega)) (hA 74 (by omega) (by omega) (by omega)) (hA 85 (by omega) (by omega) (by omega))⟩, by omega⟩
      by_cases ck : k = Fl
      · subst ck
        have ea : (zz_setI (zz_setI ν5 4 (75 + k) (pSgn b u')) 4 5 (nI (k + 1))).1 4 (75 + k) = pSgn b (nI x) := by rw [qx_isN (by omega), qx_isE, x3]
        refine ⟨⟨d, by omega, ?_, ?_⟩, ?_, ?_⟩
        · rw [qx_isN (by omega), qx_isN (by omega), erF, d3]
        · rw [qx_in (by decide), qx_in (by decide), e22F, d2]
        · rw [ea, qx_in (by decide), qx_isE, x2]
        · rw [ea]; exact pSgn_t (by omega)
      · refine pDw_C (h4 k (by omega)) ?_ ?_ (hA _ (by omega) (by omega) (by omega)) (hA _ (by omega) (by omega) (by omega))
        · rw [qx_in (by decide), qx_in (by decide), e22 k ck]
        · rw [qx_in (by decide), qx_isN ck, e 29 (by decide) (by decide)]
    · rw [if_neg fl] at eR'
      exact ⟨_, _, rfl, eR.trans eR', fc, fr, pQd_mk (pQm_w (pQm_M v5 ⟨fun _ _ => rfl, rfl, rfl⟩ ⟨fun _ _ => rfl, rfl⟩) (by omega)) (fun p2 hp2 o2 => absurd (pOK_11 o2) fl)⟩
