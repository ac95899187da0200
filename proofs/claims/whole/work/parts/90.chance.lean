/-! ===== 90: chance and mean ===== -/
theorem pc_tally {a st : Nat → Int32} (hv : pv_D a) {m : zz_Mem} (hc : pI_c m a st) (hw : pc_cw m 83 a (pCn a st)) (hz : m.1 0 18 = 0) (b : Int32) (bar : Int64) {n : Nat} (hn : n ≤ 3) : ∃ m', f_X4_tally b (nI n) bar m = some m' ∧ pI_c m' a st ∧ pK_c m m' ∧ m'.2.1 96 4 = pSm (pfB a st b bar) (pKl (pN a) n 0 ((pN a + 1) ^ n)) ∧ m'.2.1 96 5 = lI ((10 ^ n : Nat) : Int) ∧ m'.2.1 96 6 = pSm (pfW a st b) (pKl (pN a) n 0 ((pN a + 1) ^ n)) := by
  have hfu : zz_fuel = 5000 := rfl
  have h8 := (pN_b hv).1
  have e5 : m.1 2 5 = nI (pN a) := hc.1.2.2.2.2.1.trans (pN_b hv).2
  have hp : (pN a + 1) ^ n ≤ 729 := Nat.le_trans (Nat.pow_le_pow_right (by omega) hn) (Nat.pow_le_pow_left (show pN a + 1 ≤ 9 by omega) 3)
  have hp1 : ∀ k, k ≤ n → (pN a + 1) ^ k ≤ 729 := fun k hk => Nat.le_trans (Nat.pow_le_pow_right (by omega) hk) hp
  unfold f_X4_tally
  rw [pq_letM, pq_letM, pq_letM]
  generalize hm0 : zz_setJ (zz_setJ (zz_setJ m 96 4 0) 96 5 0) 96 6 0 = m0
  have f0 : pq_fr [96] m m0 := by rw [← hm0]; exact pq_frJ (pq_frJ (pq_frJ (pq_fr0 m) _ _ (by simp)) _ _ (by simp)) _ _ (by simp)
  have q4 : m0.2.1 96 4 = 0 := by rw [← hm0, qx_jsN (by decide), qx_jsN (by decide), qx_jsE]
  have q5 : m0.2.1 96 5 = 0 := by rw [← hm0, qx_jsN (by decide), qx_jsE]
  have q6 : m0.2.1 96 6 = 0 := by rw [← hm0, qx_jsE]
  obtain ⟨c0, w0, z0, k0⟩ := pc_icT hc hw hz (m' := m0) (pq_frW f0 (by simp)) (by unfold pc_fb; rw [(f0 (88 + 2) (by simp)).1]; exact hc.2.2.2.2.2.1)
  rw [(f0 2 (by simp)).1, e5, nI_1, pq_letI]
  have power : ∀ (r k fuel : Nat), k + r = n → r < fuel → f_X4_tally_32 fuel b (nI n) bar (nI (pN a + 1)) (nI ((pN a + 1) ^ k)) (nI k) m0 = f_X4_tally_54 zz_fuel b (nI n) bar (nI (pN a + 1)) (nI ((pN a + 1) ^ n)) 0 m0 := by
    intro r
    induction r with
    | zero =>
      intro k fuel g1 g2
      obtain ⟨fu, rfl⟩ : ∃ n, fuel = n + 1 := ⟨fuel - 1, by omega⟩
      obtain rfl : k = n := by omega
      rw [f_X4_tally_32, if_pos (Int32.le_refl _)]
    | succ r ih =>
      intro k fuel g1 g2
      obtain ⟨fu, rfl⟩ : ∃ n, fuel = n + 1 := ⟨fuel - 1, by omega⟩
      rw [f_X4_tally_32, if_neg (nI_ge (by omega) (by omega)), pk_mul, pq_letI, pq_letI, nI_1, ← Nat.pow_succ]
      exact ih (k + 1) fu (by omega) (by omega)
  have pw := power n 0 zz_fuel (by omega) (by omega)
  rw [nI_0, Nat.pow_zero] at pw
  have pw' : f_X4_tally_32 zz_fuel b (nI n) bar (nI (pN a + 1)) 1 0 m0 = f_X4_tally_54 zz_fuel b (nI n) bar (nI (pN a + 1)) (nI ((pN a + 1) ^ n)) 0 m0 := pw
  rw [pw']
  generalize hM : (pN a + 1) ^ n = M at *
  have loop : ∀ (r q fuel : Nat) (m1 : zz_Mem), q + r = M → r < fuel → pI_c m1 a st → pc_cw m1 83 a (pCn a st) → m1.1 0 18 = 0 → ∃ m', f_X4_tally_54 fuel b (nI n) bar (nI (pN a + 1)) (nI M) (nI q) m1 = some m' ∧ pc_lt a st b bar (pKl (pN a) n q r) m1 m' := by
    intro r
    induction r with
    | zero =>
      intro q fuel m1 g1 g2 c1 w1 z1
      obtain ⟨fu, rfl⟩ : ∃ n, fuel = n + 1 := ⟨fuel - 1, by omega⟩
      rw [f_X4_tally_54, if_pos (nI_le (by omega) (by omega))]
      refine ⟨m1, rfl, c1, w1, z1, pK_c0 m1, ?_, ?_, ?_⟩ <;> (show _ = _ + 0; rw [Int64.add_zero])
    | succ r ih =>
      intro q fuel m1 g1 g2 c1 w1 z1
      obtain ⟨fu, rfl⟩ : ∃ n, fuel = n + 1 := ⟨fuel - 1, by omega⟩
      obtain ⟨m2, d1, d2, d3, d4⟩ := pc_draw (s := pN a + 1) (n := n) (by omega) (by omega) hn n 0 q 0 zz_fuel m1 (by omega) (by omega) (by omega) (by omega) (fun _ => rfl) (fun z => absurd z (Nat.lt_irrefl _))
      rw [nI_0] at d1
      obtain ⟨c2, w2, z2, k2⟩ := pc_icT c1 w1 z1 (m' := m2) (pq_frW d2 (by simp)) (by unfold pc_fb; rw [(d2 (88 + 2) (by simp)).1]; exact c1.2.2.2.2.2.1)
      have e96 : m2.2.1 96 = m1.2.1 96 := (d2 96 (by simp)).2.1
      rw [f_X4_tally_54, if_neg (nI_ge (by omega) (by omega)), f_X4_drawInOrder, d1, pq_bnd2]
      unfold pKl
      rw [List.range'_succ, List.flatMap_cons]
      by_cases c : pOrd 0 (pDl (pN a + 1) n q) = true
      · obtain ⟨m3, y1, y2, y3, y4, y5, y6, y7, y8⟩ := pc_addDraw hv c2 w2 z2 b bar hn (D := pDl (pN a + 1) n q) (pDl_len _ _ _) (fun x hx => by have := pDl_b (s := pN a + 1) (by omega) n q x hx; omega) (fun j hj => by have := d4 c j hj; rw [Nat.zero_add] at this; exact this)
        rw [c, if_neg (show ¬ pd_b true = 0 by decide), y1, pq_bndS, pq_letI, nI_1]
        obtain ⟨m4, x1, x2, x3, x4, x5, x6, x7, x8⟩ := ih (q + 1) fu m3 (by omega) (by omega) y2 y3 y4
        unfold pKl at x6 x7 x8
        have eD : pDr (pN a) n q = [((List.range (pN a)).map (fun i => (pDl (pN a + 1) n q).count i), pOw n (fun j => (pDl (pN a + 1) n q).getD j 0) * (10 - pN a) ^ (pDl (pN a + 1) n q).count (pN a))] := by rw [pDr, if_pos c]
        refine ⟨m4, x1, x2, x3, x4, pK_cT k2 (pK_cT y5 x5), ?_, ?_, ?_⟩
        · rw [x6, y6, e96, pSm_app, eD, Int64.add_assoc]
        · rw [x7, y7, e96, pSm_app, eD, Int64.add_assoc]
        · rw [x8, y8, e96, pSm_app, eD, Int64.add_assoc]
      · simp only [Bool.not_eq_true] at c
        rw [c, if_pos (show pd_b false = 0 from rfl), pq_letI, nI_1]
        obtain ⟨m4, x1, x2, x3, x4, x5, x6, x7, x8⟩ := ih (q + 1) fu m2 (by omega) (by omega) c2 w2 z2
        unfold pKl at x6 x7 x8
        have eD : pDr (pN a) n q = [] := by rw [pDr, c]; rfl
        refine ⟨m4, x1, x2, x3, x4, pK_cT k2 x5, ?_, ?_, ?_⟩
        · rw [x6, e96, eD]; rfl
        · rw [x7, e96, eD]; rfl
        · rw [x8, e96, eD]; rfl
  obtain ⟨m', y1, y2, y3, y4, y5, y6, y7, y8⟩ := loop M 0 zz_fuel m0 (by omega) (by omega) c0 w0 z0
  rw [nI_0] at y1
  refine ⟨m', y1, y2, pK_cT k0 y5, ?_, ?_, ?_⟩
  · rw [y6, q4, Int64.zero_add]
  · rw [y7, q5, Int64.zero_add, pSm_n, ← hM, pK_sum h8 hn]
  · rw [y8, q6, Int64.zero_add]
theorem pr_whole {n : Nat} (hn : n ≤ 3) : f_X12_wholeOf (nI n) = some (lI ((10 ^ n : Nat) : Int)) := by
  have : ∀ n, n < 4 → f_X12_wholeOf (nI n) = some (lI ((10 ^ n : Nat) : Int)) := by decide +kernel
  exact this n (by omega)
/-- what both come to -/
theorem pu_lots {a st : Nat → Int32} (hv : pv_D a) (hS : pv_S a st) {μ ν : zz_Mem} (hc : pI_c μ a st) (hr : pI_r ν a) (hst : pr_st ν = st) (b : Int32) (bar : Int64) {n : Nat} (hn : n ≤ 3) : ∃ μ1 μ' ν' x y, f_X11_solvedNow μ = some μ1 ∧ f_X4_tally b (nI n) bar μ1 = some μ' ∧ f_X12_laysLots b bar (nI n) ν = some ν' ∧ pI_c μ' a st ∧ pK_c μ μ' ∧ pI_r ν' a ∧ pK_r ν ν' ∧ μ'.2.1 96 4 = lI x ∧ ν'.2.1 0 37 = lI x ∧ μ'.2.1 96 6 = lI y ∧ ν'.2.1 0 38 = lI y ∧ μ'.2.1 96 5 = lI ((10 ^ n : Nat) : Int) ∧ x.natAbs ≤ 1000 ∧ y.natAbs ≤ 10000000000000000 := by
  have h8 := (pN_b hv).1
  obtain ⟨μ1, e1, k1, c1, w1, z1, -⟩ := pc_solvedNow hv hc
  obtain ⟨μ', t1, t2, t3, t4, t5, t6⟩ := pc_tally hv c1 w1 z1 b bar hn
  obtain ⟨ν', s1, s2, s3, s4, s5, s6⟩ := pr_laysLots hv b bar hn hr hst
  rw [pSm_perm _ (pK_perm h8 hn)] at s5 s6
  have h10 : 10 ^ n ≤ 1000 := Nat.pow_le_pow_right (n := 10) (by omega) hn
  obtain ⟨x, x1, x2⟩ := pSm_b (f := pfB a st b bar) (B := 1) (fun x => by
    unfold pfB
    split
    · exact ⟨0, rfl, by simp⟩
    · exact ⟨(x.2 : Int), rfl, by omega⟩) (pKl (pN a) n 0 ((pN a + 1) ^ n))
  obtain ⟨y, y1, y2⟩ := pSm_b (f := pfW a st b) (B := 10000000000000) (fun x => by
    obtain ⟨z, z1, z2⟩ := pW_b hv hr hS (c := pCo (pCn a st) b x.1) (fun i _ => pCo_b _ _ _ i)
    refine ⟨(x.2 : Int) * z, by unfold pfW; rw [z1, lI_mul], ?_⟩
    rw [Int.natAbs_mul]
    exact Nat.mul_le_mul (by omega) z2) (pKl (pN a) n 0 ((pN a + 1) ^ n))
  rw [pK_sum h8 hn] at x2 y2
  exact ⟨μ1, μ', ν', x, y, e1, t1, s1, t2, pK_cT k1 t3, s2, s3, t4.trans x1, s5.trans x1, t6.trans y1, s6.trans y1, t5, by omega, by omega⟩
theorem op_chance : zL_op35 pI := by
  intro n μ ν p1 p2 p4 p5 ⟨a, hv, hS, hc, hr, hx⟩
  have k0 := pr_t0 hr 0 (by decide) 0
  have fin := pI_mk hv hS hx hc (pK_c0 μ) k0.2.1 k0.1
  unfold f_X11_chance f_X12_chance f_X12_isLots
  rw [pq_letM]
  generalize zz_setI ν 0 0 0 = ν1 at *
  have a1 : (0 : Int64).toInt = 0 := rfl
  have a2 : (1 : Int64).toInt = 1 := rfl
  have a3 : (-99 : Int64).toInt = -99 := rfl
  have a4 : (99 : Int64).toInt = 99 := rfl
  have a5 : (3 : Int64).toInt = 3 := rfl
  have a6 : (-1000000 : Int64).toInt = -1000000 := rfl
  have a7 : (1000000 : Int64).toInt = 1000000 := rfl
  have i0 : (0 : Int32).toInt = 0 := rfl
  have i1 : (1 : Int32).toInt = 1 := rfl
  have i2 : (-99 : Int32).toInt = -99 := rfl
  have i3 : (99 : Int32).toInt = 99 := rfl
  have i4 : (3 : Int32).toInt = 3 := rfl
  have n1 : ¬ (1 : Int32) = 0 := by decide
  simp only [Int32.lt_iff_toInt_lt, Int32.le_iff_toInt_le, Int64.lt_iff_toInt_lt, i0, i1, i2, i3, i4, a6, a7]
  rcases pi_within p5.toInt64 0 1 with ⟨g1, g2, g3⟩ | ⟨g1, g3⟩
  · rw [Int32.toInt_toInt64, a1] at g1
    rw [Int32.toInt_toInt64, a2] at g2
    rw [g3, pq_bndS, if_neg n1, if_neg (by omega), if_pos g2]
    rcases pi_within p1.toInt64 (-99) 99 with ⟨b1, b2, b3⟩ | ⟨b1, b3⟩
    · rw [Int32.toInt_toInt64, a3] at b1
      rw [Int32.toInt_toInt64, a4] at b2
      rw [b3, pq_bndS, if_neg n1, if_neg (by omega), if_neg (by omega)]
      rcases pi_within p4.toInt64 0 3 with ⟨d1, d2, d3⟩ | ⟨d1, d3⟩
      · rw [Int32.toInt_toInt64, a1] at d1
        rw [Int32.toInt_toInt64, a5] at d2
        rw [d3, pq_bndS, if_neg n1, pq_bndS, if_neg n1]
        rcases pi_within p2 (-1000000) 1000000 with ⟨k1, k2, k3⟩ | ⟨k1, k3⟩
        · rw [a6] at k1
          rw [a7] at k2
          rw [k3, pq_bndS, if_neg n1, if_neg (by omega), if_neg (by omega), if_neg (by omega), if_pos d2]
          have en : p4 = nI p4.toNatClampNeg := pq_nn d1
          have hn : p4.toNatClampNeg ≤ 3 := by have := pq_clT d1; omega
          generalize p4.toNatClampNeg = n' at *
          subst en
          obtain ⟨μ1, μ', ν', x, y, e1, e2, e3, e4, e5, e6, e7, e8, e9, e10, e11, e12, e13, e14⟩ := pu_lots hv hS hc k0.2.1 k0.2.2 p1 (p2 * 1000000000) hn
          have h10 : 0 < 10 ^ n' := Nat.pow_pos (by omega)
          have h1k : 10 ^ n' ≤ 1000 := Nat.pow_le_pow_right (n := 10) (by omega) hn
          obtain ⟨g, gn, t1, t2, t3⟩ := pu_terms (x := x) (w := 10 ^ n') (by omega) (by omega) h10 h1k
          have fin2 := pI_mk hv hS hx e4 e5 e6 (pK_rT k0.1 e7)
          rw [Int64.mul_comm 1000000000 p2, e1, pq_bndS, e2, pq_bndS, e3, pq_bndS, e8, e12]
          have h01 : p5 = 0 ∨ p5 = 1 := by
            by_cases c : p5.toInt = 0
            · left; apply Int32.toInt_inj.mp; rw [c]; rfl
            · right; apply Int32.toInt_inj.mp; rw [i1]; omega
          rcases h01 with rfl | rfl
          · rw [t2, pq_bndS, if_pos rfl, f_X12_chance_73, pr_whole hn, pq_bndS, e9, t1, pq_bndS, pq_nzJE gn]
            exact ⟨_, _, _, rfl, rfl, fin2⟩
          · rw [t3, pq_bndS, if_neg n1, pr_whole hn, pq_bndS, f_X12_chance_73, pr_whole hn, pq_bndS, e9, t1, pq_bndS, pq_nzJE gn]
            exact ⟨_, _, _, rfl, rfl, fin2⟩
        · rw [a6, a7] at k1
          rw [k3, pq_bndS, if_pos rfl]
          by_cases c : p2.toInt < -1000000
          · rw [if_pos c]; exact ⟨_, _, _, rfl, rfl, fin⟩
          · rw [if_neg c, if_pos (by omega)]; exact ⟨_, _, _, rfl, rfl, fin⟩
      · rw [Int32.toInt_toInt64, a1, a5] at d1
        rw [d3, pq_bndS, if_pos rfl, pq_bndS, if_pos rfl]
        refine ⟨-3, μ, ν1, ?_, rfl, fin⟩
        split
        · rfl
        · split
          · rfl
          · split
            · rfl
            · rw [if_neg (by omega)]
    · rw [Int32.toInt_toInt64, a3, a4] at b1
      rw [b3, pq_bndS, if_pos rfl, pq_bndS, if_pos rfl]
      refine ⟨-3, μ, ν1, ?_, rfl, fin⟩
      by_cases c : p1.toInt < -99
      · rw [if_pos c]
      · rw [if_neg c, if_pos (by omega)]
  · rw [Int32.toInt_toInt64, a1, a2] at g1
    rw [g3, pq_bndS, if_pos rfl]
    refine ⟨-2, μ, ν1, ?_, rfl, fin⟩
    by_cases c : p5.toInt < 0
    · rw [if_pos c]
    · rw [if_neg c, if_neg (by omega)]
theorem op_mean : zL_op36 pI := by
  intro n μ ν p1 p4 p5 ⟨a, hv, hS, hc, hr, hx⟩
  have k0 := pr_t0 hr 0 (by decide) 0
  have fin := pI_mk hv hS hx hc (pK_c0 μ) k0.2.1 k0.1
  unfold f_X11_mean f_X12_mean f_X12_isLots
  rw [pq_letM]
  generalize zz_setI ν 0 0 0 = ν1 at *
  have a1 : (0 : Int64).toInt = 0 := rfl
  have a2 : (1 : Int64).toInt = 1 := rfl
  have a3 : (-99 : Int64).toInt = -99 := rfl
  have a4 : (99 : Int64).toInt = 99 := rfl
  have a5 : (3 : Int64).toInt = 3 := rfl
  have i0 : (0 : Int32).toInt = 0 := rfl
  have i1 : (1 : Int32).toInt = 1 := rfl
  have i2 : (-99 : Int32).toInt = -99 := rfl
  have i3 : (99 : Int32).toInt = 99 := rfl
  have i4 : (3 : Int32).toInt = 3 := rfl
  have n1 : ¬ (1 : Int32) = 0 := by decide
  simp only [Int32.lt_iff_toInt_lt, Int32.le_iff_toInt_le, i0, i1, i2, i3, i4]
  rcases pi_within p5.toInt64 0 1 with ⟨g1, g2, g3⟩ | ⟨g1, g3⟩
  · rw [Int32.toInt_toInt64, a1] at g1
    rw [Int32.toInt_toInt64, a2] at g2
    rw [g3, pq_bndS, if_neg n1, if_neg (by omega), if_pos g2]
    rcases pi_within p1.toInt64 (-99) 99 with ⟨b1, b2, b3⟩ | ⟨b1, b3⟩
    · rw [Int32.toInt_toInt64, a3] at b1
      rw [Int32.toInt_toInt64, a4] at b2
      rw [b3, pq_bndS, if_neg n1, if_neg (by omega), if_neg (by omega)]
      rcases pi_within p4.toInt64 0 3 with ⟨d1, d2, d3⟩ | ⟨d1, d3⟩
      · rw [Int32.toInt_toInt64, a1] at d1
        rw [Int32.toInt_toInt64, a5] at d2
        rw [d3, pq_bndS, if_neg n1, pq_bndS, if_neg n1, if_neg (by omega), if_pos d2]
        have en : p4 = nI p4.toNatClampNeg := pq_nn d1
        have hn : p4.toNatClampNeg ≤ 3 := by have := pq_clT d1; omega
        generalize p4.toNatClampNeg = n' at *
        subst en
        obtain ⟨μ1, μ', ν', x, y, e1, e2, e3, e4, e5, e6, e7, e8, e9, e10, e11, e12, e13, e14⟩ := pu_lots hv hS hc k0.2.1 k0.2.2 p1 0 hn
        have h10 : 0 < 10 ^ n' := Nat.pow_pos (by omega)
        have h1k : 10 ^ n' ≤ 1000 := Nat.pow_le_pow_right (n := 10) (by omega) hn
        obtain ⟨g, gn, t1, t2, t3⟩ := pu_terms (x := y) (w := 10 ^ n') (by omega) (by omega) h10 h1k
        have fin2 := pI_mk hv hS hx e4 e5 e6 (pK_rT k0.1 e7)
        rw [e1, pq_bndS, e2, pq_bndS, e3, pq_bndS, e10, e12]
        have h01 : p5 = 0 ∨ p5 = 1 := by
          by_cases c : p5.toInt = 0
          · left; apply Int32.toInt_inj.mp; rw [c]; rfl
          · right; apply Int32.toInt_inj.mp; rw [i1]; omega
        rcases h01 with rfl | rfl
        · rw [t2, pq_bndS, if_pos rfl, f_X12_mean_53, pr_whole hn, pq_bndS, e11, t1, pq_bndS, pq_nzJE gn]
          exact ⟨_, _, _, rfl, rfl, fin2⟩
        · rw [t3, pq_bndS, if_neg n1, pr_whole hn, pq_bndS, f_X12_mean_53, pr_whole hn, pq_bndS, e11, t1, pq_bndS, pq_nzJE gn]
          exact ⟨_, _, _, rfl, rfl, fin2⟩
      · rw [Int32.toInt_toInt64, a1, a5] at d1
        rw [d3, pq_bndS, if_pos rfl, pq_bndS, if_pos rfl]
        refine ⟨_, μ, ν1, ?_, rfl, fin⟩
        split
        · rfl
        · rw [if_neg (by omega)]
    · rw [Int32.toInt_toInt64, a3, a4] at b1
      rw [b3, pq_bndS, if_pos rfl, pq_bndS, if_pos rfl]
      refine ⟨_, μ, ν1, ?_, rfl, fin⟩
      by_cases c : p1.toInt < -99
      · rw [if_pos c]
      · rw [if_neg c, if_pos (by omega)]
  · rw [Int32.toInt_toInt64, a1, a2] at g1
    rw [g3, pq_bndS, if_pos rfl]
    refine ⟨_, μ, ν1, ?_, rfl, fin⟩
    by_cases c : p5.toInt < 0
    · rw [if_pos c]
    · rw [if_neg c, if_neg (by omega)]
