/-! ===== 87: the reference goes through the lots ===== -/
theorem pCh_ok : ∀ left, left < 4 → ∀ n, n < 4 → n ≤ left → lI (pCh left n : Int) * (nI (left - n)).toInt64 / (nI (n + 1)).toInt64 = lI (pCh left (n + 1) : Int) := by decide +kernel
noncomputable def pfB (a st : Nat → Int32) (b : Int32) (bar : Int64) (x : List Nat × Nat) : Int64 := if bar ≤ pW a (pCo (pCn a st) b x.1) st then 0 else lI (x.2 : Int)
noncomputable def pfW (a st : Nat → Int32) (b : Int32) (x : List Nat × Nat) : Int64 := lI (x.2 : Int) * pW a (pCo (pCn a st) b x.1) st
/-- what a way through the lots leaves -/
def pr_lt (a st : Nat → Int32) (b : Int32) (bar : Int64) (i : Nat) (L : List (List Nat × Nat)) (m m' : zz_Mem) : Prop := pI_r m' a ∧ pK_r m m' ∧ pr_st m' = pr_st m ∧ (∀ j, j < i → m'.1 22 j = m.1 22 j) ∧ m'.2.1 0 37 = m.2.1 0 37 + pSm (pfB a st b bar) L ∧ m'.2.1 0 38 = m.2.1 0 38 + pSm (pfW a st b) L
theorem pr_leaf {a st : Nat → Int32} (hv : pv_D a) (b : Int32) (bar : Int64) (g : Nat → Int32 → Int32 → Int64 → Int32 → Int64 → zz_Mem → Option zz_Mem) {left w : Nat} (hl : left ≤ 3) {o : List Nat} {m : zz_Mem} (hr : pI_r m a) (hst : pr_st m = st) (h22 : ∀ j, j < pN a → m.1 22 j = nI (o.getD j 0)) : ∃ m', f_X12_goesLots g (nI (pN a)) b bar (nI left) (lI (w : Int)) m = some m' ∧ pr_lt a st b bar (pN a) [(o, w * (10 - pN a) ^ left)] m m' := by
  have hfu : zz_fuel = 5000 := rfl
  have h8 := (pN_b hv).1
  have e4 : m.1 1 4 = nI (pN a) := (hr.1 4 (by omega)).trans (pN_b hv).2
  have e74 : m.1 1 74 = st 8 := by rw [← hst]; rfl
  unfold f_X12_goesLots
  rw [e4, if_pos rfl, e74]
  obtain ⟨m1, q1, q2, q3⟩ := pr_laysCounts hv (st 8) hr.1 hr.2
  rw [q1, pq_bndS]
  rw [hst] at q3
  have cnt : ∀ (r k fuel : Nat) (m2 : zz_Mem), k + r = pN a → r < fuel → pq_fr [5, 6, 12] m m2 → (∀ j, j < k → m2.1 12 j = nI (pCo (pCn a st) b o j)) → (∀ j, k ≤ j → j < pN a → m2.1 12 j = nI (pCn a st j)) → ∃ m3, f_X12_goesLots_24 g fuel b bar (nI left) (lI (w : Int)) (nI k) m2 = f_X12_goesLots_72 g bar (nI left) (lI (w : Int)) m3 ∧ pq_fr [5, 6, 12] m m3 ∧ pr_cnt m3 a (pCo (pCn a st) b o) := by
    intro r
    induction r with
    | zero =>
      intro k fuel m2 g1 g2 f g3 g4
      obtain ⟨fu, rfl⟩ : ∃ n, fuel = n + 1 := ⟨fuel - 1, by omega⟩
      rw [f_X12_goesLots_24, (f 1 (by simp)).1, e4, if_pos (nI_le (by omega) (by omega))]
      exact ⟨m2, rfl, f, fun j hj => ⟨g3 j (by omega), pCo_b _ _ _ _⟩⟩
    | succ r ih =>
      intro k fuel m2 g1 g2 f g3 g4
      obtain ⟨fu, rfl⟩ : ∃ n, fuel = n + 1 := ⟨fuel - 1, by omega⟩
      have e22 : m2.1 22 k = nI (o.getD k 0) := by rw [(f 22 (by simp)).1]; exact h22 k (by omega)
      rw [f_X12_goesLots_24, (f 1 (by simp)).1, e4, if_neg (nI_ge (by omega) (by omega))]
      simp (disch := omega) only [qx_ix, qx_cl]
      rw [g4 k (by omega) (by omega), e22, pg_kept, pq_bndS, pq_letM, pq_letI, nI_1]
      exact ih (k + 1) fu _ (by omega) (by omega) (pq_frI f _ _ (by simp)) (fun j hj => by
        by_cases c : j = k
        · rw [c, qx_isE]; rfl
        · rw [qx_isN c]; exact g3 j (by omega)) (fun j j1 j2 => by rw [qx_isN (by omega)]; exact g4 j (by omega) j2)
  obtain ⟨m3, y1, y2, y3⟩ := cnt (pN a) 0 zz_fuel m1 (by omega) (by omega) q2 (fun j hj => absurd hj (Nat.not_lt_zero _)) (fun j _ hj => (q3 j hj).1)
  rw [nI_0] at y1
  rw [y1]
  unfold f_X12_goesLots_72
  obtain ⟨m4, F, z1, z2⟩ := pr_byCounts hv hr.1 hr.2 y2 y3
  have z3 := pr_lw z2
  obtain ⟨u1, u2, u3⟩ := pr_cwK z3 hr
  rw [z1, pq_bndS]
  have e4' : m4.1 1 4 = nI (pN a) := (u2.1 4 (by omega)).trans (pN_b hv).2
  have l10 : (10 : Int32) = nI 10 := rfl
  have lp : ∀ (r k fuel w' : Nat), k + r = left → r < fuel → f_X12_goesLots_83 g fuel bar (nI left) (lI (w' : Int)) (nI k) m4 = f_X12_goesLots_111 g bar (lI ((w' * (10 - pN a) ^ r : Nat) : Int)) m4 := by
    intro r
    induction r with
    | zero =>
      intro k fuel w' g1 g2
      obtain ⟨fu, rfl⟩ : ∃ n, fuel = n + 1 := ⟨fuel - 1, by omega⟩
      rw [f_X12_goesLots_83, if_pos (nI_le (by omega) (by omega)), Nat.pow_zero, Nat.mul_one]
    | succ r ih =>
      intro k fuel w' g1 g2
      obtain ⟨fu, rfl⟩ : ∃ n, fuel = n + 1 := ⟨fuel - 1, by omega⟩
      rw [f_X12_goesLots_83, if_neg (nI_ge (by omega) (by omega)), e4', l10, pk_sub (by omega), qx_nl (by omega), lI_mul, pq_letJ, pq_letI, nI_1]
      have := ih (k + 1) fu (w' * (10 - pN a)) (by omega) (by omega)
      rw [Int.natCast_mul] at this
      rw [this, Nat.pow_succ, Nat.mul_assoc, Nat.mul_comm ((10 - pN a) ^ r)]
  have := lp left 0 zz_fuel w (by omega) (by omega)
  rw [nI_0] at this
  rw [this]
  unfold f_X12_goesLots_111
  rw [pr_worth hv (fun i _ => pCo_b _ _ _ i) u2 z3, pq_bndS, u3, hst]
  generalize hw' : w * (10 - pN a) ^ left = w'
  have eJ : m4.2.1 0 = m.2.1 0 := z3.2.1
  have fin : ∀ s0 : Int64, s0 = pfB a st b bar (o, w') → ∃ m', f_X12_goesLots_135 g (lI (w' : Int)) (pW a (pCo (pCn a st) b o) st) s0 (m4.2.1 0 37) m4 = some m' ∧ pr_lt a st b bar (pN a) [(o, w')] m m' := by
    intro s0 h0
    unfold f_X12_goesLots_135
    rw [pq_letM, pq_letM]
    have fz : pq_fr [0] m4 (zz_setJ (zz_setJ m4 0 37 (m4.2.1 0 37 + s0)) 0 38 ((zz_setJ m4 0 37 (m4.2.1 0 37 + s0)).2.1 0 38 + lI (w' : Int) * pW a (pCo (pCn a st) b o) st)) := pq_frJ (pq_frJ (pq_fr0 m4) _ _ (by simp)) _ _ (by simp)
    obtain ⟨v1, v2⟩ := pI_rF u2 fz (by simp)
    refine ⟨_, rfl, v1, pK_rT u1 (pK_rF fz (by simp) rfl rfl rfl), v2.trans u3, fun j hj => ?_, ?_, ?_⟩
    · rw [(fz 22 (by simp)).1, (z3.1 22 (by simp)).1]
    · rw [qx_jsN (by decide), qx_jsE, eJ, h0]
      show _ = _ + (pfB a st b bar (o, w') + 0)
      rw [Int64.add_zero]
    · rw [qx_jsE, qx_jsN (by decide), eJ]
      show _ = _ + (pfW a st b (o, w') + 0)
      rw [Int64.add_zero]; rfl
  by_cases c : bar ≤ pW a (pCo (pCn a st) b o) st
  · rw [if_pos c]; exact fin 0 (by unfold pfB; rw [if_pos c])
  · rw [if_neg c]; exact fin _ (by unfold pfB; rw [if_neg c])
theorem pr_lots {a st : Nat → Int32} (hv : pv_D a) (b : Int32) (bar : Int64) : ∀ (r i left w fuel : Nat) (o : List Nat) (m : zz_Mem), i + r = pN a → left ≤ 3 → o.length = i → r < fuel → pI_r m a → pr_st m = st → (∀ j, j < i → m.1 22 j = nI (o.getD j 0)) → ∃ m', grp_lots fuel 0 (nI i) b bar (nI left) (lI (w : Int)) m = some m' ∧ pr_lt a st b bar i (pRl (pN a) r left w o) m m' := by
  have hfu : zz_fuel = 5000 := rfl
  have h8 := (pN_b hv).1
  intro r
  induction r with
  | zero =>
    intro i left w fuel o m h1 h2 h3 h4 hr hst h22
    obtain ⟨fu, rfl⟩ : ∃ n, fuel = n + 1 := ⟨fuel - 1, by omega⟩
    obtain rfl : i = pN a := by omega
    show ∃ m', f_X12_goesLots (grp_lots fu) _ _ _ _ _ _ = _ ∧ _
    exact pr_leaf hv b bar _ h2 hr hst h22
  | succ r ih =>
    intro i left w fuel o m h1 h2 h3 h4 hr hst h22
    obtain ⟨fu, rfl⟩ : ∃ n, fuel = n + 1 := ⟨fuel - 1, by omega⟩
    show ∃ m', f_X12_goesLots (grp_lots fu) _ _ _ _ _ _ = _ ∧ _
    have e4 : m.1 1 4 = nI (pN a) := (hr.1 4 (by omega)).trans (pN_b hv).2
    unfold f_X12_goesLots
    rw [e4, if_neg (by rw [nI_eq (by omega) (by omega)]; omega)]
    have loop : ∀ (t n fuel' : Nat) (m1 : zz_Mem), n + t = left + 1 → t < fuel' → pI_r m1 a → pr_st m1 = st → (∀ j, j < i → m1.1 22 j = nI (o.getD j 0)) → ∃ m', f_X12_goesLots_160 (grp_lots fu) fuel' (nI i) b bar (nI left) (lI (w : Int)) (lI (pCh left n : Int)) (nI n) m1 = some m' ∧ pr_lt a st b bar i ((List.range' n t).flatMap fun n => pRl (pN a) r (left - n) (w * pCh left n) (o ++ [n])) m1 m' := by
      intro t
      induction t with
      | zero =>
        intro n fuel' m1 g1 g2 hr1 hs1 k22
        obtain ⟨fu', rfl⟩ : ∃ n, fuel' = n + 1 := ⟨fuel' - 1, by omega⟩
        rw [f_X12_goesLots_160, if_pos (nI_lt (by omega) (by omega))]
        refine ⟨m1, rfl, hr1, pK_r0 m1, rfl, fun _ _ => rfl, ?_, ?_⟩
        · show _ = _ + 0; rw [Int64.add_zero]
        · show _ = _ + 0; rw [Int64.add_zero]
      | succ t iht =>
        intro n fuel' m1 g1 g2 hr1 hs1 k22
        obtain ⟨fu', rfl⟩ : ∃ n, fuel' = n + 1 := ⟨fuel' - 1, by omega⟩
        rw [f_X12_goesLots_160, if_neg (nI_nlt (by omega) (by omega))]
        simp (disch := omega) only [qx_ix, qx_cl]
        rw [pq_letM]
        have fz : pq_fr [22] m1 (zz_setI m1 22 i (nI n)) := pq_frI (pq_fr0 m1) _ _ (by simp)
        obtain ⟨v1, v2⟩ := pI_rF hr1 fz (by simp)
        have k1 : pK_r m1 (zz_setI m1 22 i (nI n)) := pK_rF fz (by simp) rfl rfl rfl
        have hJ : (zz_setI m1 22 i (nI n)).2.1 0 = m1.2.1 0 := (fz 0 (by simp)).2.1
        obtain ⟨m2, y1, y2, y3, y4, y5, y6, y7⟩ := ih (i + 1) (left - n) (w * pCh left n) fu (o ++ [n]) (zz_setI m1 22 i (nI n)) (by omega) (by omega) (by simp [h3]) (by omega) v1 (v2.trans hs1) (fun j hj => by
          by_cases c : j = i
          · rw [c, qx_isE, ← h3]; simp
          · rw [qx_isN c, k22 j (by omega)]
            rw [List.getD_eq_getElem?_getD, List.getD_eq_getElem?_getD, List.getElem?_append_left (by omega)])
        rw [Int.natCast_mul] at y1
        rw [nI_1, nI_1, pk_sub (by omega), lI_mul, y1, pq_bndS, pCh_ok left (by omega) n (by omega) (by omega)]
        have hnz : ¬ (nI (n + 1)).toInt64 = 0 := by
          rw [qx_nl (by omega)]
          intro e
          have := (pu_lI0 (by omega) (by omega)).mp e
          omega
        rw [pq_nzJE hnz, pq_letJ, pq_letI]
        obtain ⟨m3, z1, z2, z3, z4, z5, z6, z7⟩ := iht (n + 1) fu' m2 (by omega) (by omega) y2 ((y4.trans v2).trans hs1) (fun j hj => by rw [y5 j (by omega), qx_isN (by omega)]; exact k22 j hj)
        refine ⟨m3, z1, z2, pK_rT k1 (pK_rT y3 z3), (z4.trans y4).trans v2, fun j hj => by rw [z5 j hj, y5 j (by omega), qx_isN (by omega)], ?_, ?_⟩
        · rw [z6, y6, hJ, List.range'_succ, List.flatMap_cons, pSm_app, Int64.add_assoc]
        · rw [z7, y7, hJ, List.range'_succ, List.flatMap_cons, pSm_app, Int64.add_assoc]
    have := loop (left + 1) 0 zz_fuel m (by omega) (by omega) hr hst h22
    rw [nI_0] at this
    exact this
theorem pr_laysLots {a st : Nat → Int32} (hv : pv_D a) (b : Int32) (bar : Int64) {n : Nat} (hn : n ≤ 3) {m : zz_Mem} (hr : pI_r m a) (hst : pr_st m = st) : ∃ m', f_X12_laysLots b bar (nI n) m = some m' ∧ pI_r m' a ∧ pK_r m m' ∧ pr_st m' = pr_st m ∧ m'.2.1 0 37 = pSm (pfB a st b bar) (pRl (pN a) (pN a) n 1 []) ∧ m'.2.1 0 38 = pSm (pfW a st b) (pRl (pN a) (pN a) n 1 []) := by
  have h8 := (pN_b hv).1
  unfold f_X12_laysLots F_X12_goesLots
  rw [pq_letM, pq_letM]
  have fz : pq_fr [0] m (zz_setJ (zz_setJ m 0 37 0) 0 38 0) := pq_frJ (pq_frJ (pq_fr0 m) _ _ (by simp)) _ _ (by simp)
  obtain ⟨v1, v2⟩ := pI_rF hr fz (by simp)
  obtain ⟨m', y1, y2, y3, y4, y5, y6, y7⟩ := pr_lots hv b bar (pN a) 0 n 1 12 [] (zz_setJ (zz_setJ m 0 37 0) 0 38 0) (by omega) hn rfl (by omega) v1 (v2.trans hst) (fun j hj => absurd hj (Nat.not_lt_zero _))
  rw [nI_0] at y1
  have y1' : grp_lots 12 0 0 b bar (nI n) 1 (zz_setJ (zz_setJ m 0 37 0) 0 38 0) = some m' := y1
  rw [y1', pq_bndS]
  refine ⟨m', rfl, y2, pK_rT (pK_rF fz (by simp) rfl rfl rfl) y3, y4.trans v2, ?_, ?_⟩
  · rw [y6, qx_jsN (by decide), qx_jsE, Int64.zero_add]
  · rw [y7, qx_jsE, Int64.zero_add]
