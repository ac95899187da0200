/-! ===== 99d: comparisons ===== -/
def pRc (g' : Nat → Int32 → zz_Mem → Option zz_Mem) (d : Int32) (m : zz_Mem) : Option zz_Mem := zz_bndR (g' 0 d m) fun m3 => zz_bndR (f_X12_is m3 (41 : Int32)) fun r4 => if r4 = 0 then (zz_bndR (f_X12_is m3 (42 : Int32)) fun r5 => if r5 = 0 then f_X12_readUnit_111 g' d (3005 : Int32) m3 else f_X12_readUnit_111 g' d (3004 : Int32) m3) else f_X12_readUnit_111 g' d (3003 : Int32) m3
theorem pg_comp {B : Nat → Nat} {len sh lo hi D : Nat} {g g' : Nat → Int32 → zz_Mem → Option zz_Mem} {d : Int32} (hz : pZd B len (g 0 d) (g' 0 d)) (hF : ∀ n, pFx n → g' 0 d n = some n) (hs : pGr B len sh lo hi false D (g 0 d) (g' 0 d)) : pGr B len sh lo hi true (D + 1) (f_X7_readComparison g d) (pRc g' d) := by
  intro N p m n hlw ho h1 h2 hN
  have hl := ho.1.1
  obtain ⟨μ1, ν1, y1, y2, y3⟩ := ps_sub (b := false) (D2 := D) (D3 := D + 1) hN hl hz (fun N' p' m' n' ec er o a1 a2 a3 => hs N' p' m' n' (pLw_E hlw ec er) o a1 a2 a3) (ps_start ho h1 h2) (by omega) (by simp)
  unfold f_X7_readComparison pRc
  rw [y1, pq_bndS, y2, pq_bndS]
  obtain ⟨hc, hr, h⟩ := id y3
  -- the reference fails, and the rest changes nothing
  have rf : ∀ (s0 : Int32) (n2 : zz_Mem), (f_X12_is ν1 41 = some 0) → (f_X12_is ν1 42 = some 0) → (f_X12_is ν1 43 = some 0) → f_X12_fails 2 ν1 = some n2 → pFx n2 → f_X12_readUnit_111 g' d s0 ν1 = some n2 := fun s0 n2 i1 i2 i3 f1 f2 => by
    unfold f_X12_readUnit_111 f_X12_readUnit_151
    rw [i1, pq_bndS, if_pos rfl, i2, pq_bndS, if_pos rfl, i3, pq_bndS, if_pos rfl, f1, pq_bndS, hF n2 f2, pq_bndS, fx_codes f2, pq_bndS]
  rcases h with ⟨p1, C, q0, q1, q2, q3, q4⟩ | ⟨p1, k, q1, q2, q3, q4⟩ | q
  · have hp1 := q2.2.2.1
    have e1 : μ1.1 30 4 = 61 ↔ pkK B len p1 = 41 := po_sign q2 (i := 9) (by omega)
    have e2 : μ1.1 30 4 = 60 ↔ pkK B len p1 = 42 := po_sign q2 (i := 10) (by omega)
    have e3 : μ1.1 30 4 = 62 ↔ pkK B len p1 = 43 := po_sign q2 (i := 11) (by omega)
    have i1 : f_X12_is ν1 41 = some (pd_b (decide (pkK B len p1 = 41))) := pr_isO q2 (k := 41) (by omega)
    have i2 : f_X12_is ν1 42 = some (pd_b (decide (pkK B len p1 = 42))) := pr_isO q2 (k := 42) (by omega)
    have i3 : f_X12_is ν1 43 = some (pd_b (decide (pkK B len p1 = 43))) := pr_isO q2 (k := 43) (by omega)
    -- a sign of comparison is there
    have go : ∀ c : Int32, pkK B len p1 ≠ 30 → (c = 3003 ∨ c = 3004 ∨ c = 3005) → ∃ m' n', f_X7_readComparison_51 g d (pe_cm sh c) μ1 = some m' ∧ f_X12_readUnit_139 g' d c ν1 = some n' ∧ pSt2 B len sh lo hi N p m n [true] 0 (D + 1) 0 m' n' := by
      intro c ht hcc
      obtain ⟨μ2, ν2, z1, z2, z3⟩ := ps_next hc hr q0 q1 q2 q3 q4 ht
      obtain ⟨μ3, ν3, w1, w2, w3⟩ := ps_sub (b := false) (D2 := D) (D3 := D + 1) hN hl hz (fun N' p' m' n' ec er o a1 a2 a3 => hs N' p' m' n' (pLw_E hlw ec er) o a1 a2 a3) z3 (Nat.le_refl _) (by simp; omega)
      obtain ⟨μ4, ν4, v1, v2, v3⟩ := ps_code (T' := [true]) hN hl (wf_cm hcc) w3
      refine ⟨μ4, ν4, ?_, ?_, ps_less v3 (Nat.le_refl _) (Nat.le_refl _) (Nat.zero_le _)⟩
      · unfold f_X7_readComparison_51
        have hne : ¬ pe_cm sh c = -1 := by
          rcases hcc with rfl | rfl | rfl
          · exact show ¬ (2003 : Int32) = -1 by decide
          · exact show ¬ (2004 : Int32) = -1 by decide
          · exact show ¬ (2005 : Int32) = -1 by decide
        rw [if_neg hne, z1, pq_bndS, w1, pq_bndS, v1, pq_bndS]
      · unfold f_X12_readUnit_139 f_X12_readUnit_151
        rw [z2, pq_bndS, w2, pq_bndS, v2, pq_bndS]
    by_cases c1 : pkK B len p1 = 41
    · obtain ⟨m', n', a1, a2, a3⟩ := go 3003 (by omega) (by decide)
      refine ⟨m', n', by rw [if_pos (e1.mpr c1)]; exact a1, ?_, a3⟩
      rw [i1, decide_eq_true c1, pq_bndS, if_neg (show ¬ pd_b true = 0 by decide)]
      unfold f_X12_readUnit_111
      rw [i1, decide_eq_true c1, pq_bndS, if_neg (show ¬ pd_b true = 0 by decide)]; exact a2
    · by_cases c2 : pkK B len p1 = 42
      · obtain ⟨m', n', a1, a2, a3⟩ := go 3004 (by omega) (by decide)
        refine ⟨m', n', by rw [if_neg (fun z => c1 (e1.mp z)), if_pos (e2.mpr c2)]; exact a1, ?_, a3⟩
        rw [i1, decide_eq_false c1, pq_bndS, if_pos (show pd_b false = 0 from rfl), i2, decide_eq_true c2, pq_bndS, if_neg (show ¬ pd_b true = 0 by decide)]
        unfold f_X12_readUnit_111
        rw [i1, decide_eq_false c1, pq_bndS, if_pos (show pd_b false = 0 from rfl), i2, decide_eq_true c2, pq_bndS, if_neg (show ¬ pd_b true = 0 by decide)]; exact a2
      · by_cases c3 : pkK B len p1 = 43
        · obtain ⟨m', n', a1, a2, a3⟩ := go 3005 (by omega) (by decide)
          refine ⟨m', n', by rw [if_neg (fun z => c1 (e1.mp z)), if_neg (fun z => c2 (e2.mp z)), if_pos (e3.mpr c3)]; exact a1, ?_, a3⟩
          rw [i1, decide_eq_false c1, pq_bndS, if_pos (show pd_b false = 0 from rfl), i2, decide_eq_false c2, pq_bndS, if_pos (show pd_b false = 0 from rfl)]
          unfold f_X12_readUnit_111
          rw [i1, decide_eq_false c1, pq_bndS, if_pos (show pd_b false = 0 from rfl), i2, decide_eq_false c2, pq_bndS, if_pos (show pd_b false = 0 from rfl), i3, decide_eq_true c3, pq_bndS, if_neg (show ¬ pd_b true = 0 by decide)]; exact a2
        · obtain ⟨μ2, ν2, z1, z2, z3, z4⟩ := ps_fail (T := [true]) (e := 0) (D := D + 1) (k0 := 0) (p := p) (lo := lo) (hi := hi) (w := 2) hc hr (by omega) q2 q4 (by omega)
          have z1' : f_X7_fail 2 μ1 = some μ2 := z1
          have z2' : f_X12_fails 2 ν1 = some ν2 := z2
          obtain ⟨⟨w, p2, f⟩, nn⟩ := z4
          have hx' : pFx ν2 := by unfold pFx; rw [f.2.1]; exact pr_n0 f.1.2.2.2.1
          rw [decide_eq_false c1] at i1
          rw [decide_eq_false c2] at i2
          rw [decide_eq_false c3] at i3
          refine ⟨μ2, ν2, ?_, ?_, z3⟩
          · rw [if_neg (fun z => c1 (e1.mp z)), if_neg (fun z => c2 (e2.mp z)), if_neg (fun z => c3 (e3.mp z))]
            unfold f_X7_readComparison_51
            rw [if_pos rfl, z1', pq_bndS]
          · rw [i1, pq_bndS, if_pos (show pd_b false = 0 from rfl), i2, pq_bndS, if_pos (show pd_b false = 0 from rfl)]
            exact rf 3005 ν2 i1 i2 i3 z2' hx'
  · have hp1 := q2.2.2.1
    obtain ⟨μ2, z1, z2, z3⟩ := sc_fail (⟨q2.1, N + k, by omega, q3⟩ : pSc B len 1 p1 μ1) 2
    have z1' : f_X7_fail 2 μ1 = some μ2 := z1
    obtain ⟨ν2, w1, w2, w3, w4⟩ := pr_failB 2 q2
    have w1' : f_X12_fails 2 ν1 = some ν2 := w1
    have i1 : f_X12_is ν1 41 = some 0 := pr_isB q2 (k := 41) (by omega) (by omega)
    have i2 : f_X12_is ν1 42 = some 0 := pr_isB q2 (k := 42) (by omega) (by omega)
    have i3 : f_X12_is ν1 43 = some 0 := pr_isB q2 (k := 43) (by omega) (by omega)
    refine ⟨μ2, ν2, ?_, ?_, pEcT hc z3, pErT hr (pEr_Z w2), Or.inr (Or.inr ⟨⟨1, p1, z2.1, w3, w4⟩, z2.2⟩)⟩
    · rw [q2.1.2.2.1, if_neg (by decide), if_neg (by decide), if_neg (by decide)]
      unfold f_X7_readComparison_51
      rw [if_pos rfl, z1', pq_bndS]
    · rw [i1, pq_bndS, if_pos rfl, i2, pq_bndS, if_pos rfl]
      exact rf 3005 ν2 i1 i2 i3 w1' (by unfold pFx; rw [w3]; exact pr_n0 (by omega))
  · obtain ⟨⟨w, p1, f⟩, nn⟩ := q
    obtain ⟨μ2, z1, z2, z3⟩ := sc_fail (⟨f.1, nn⟩ : pSc B len w p1 μ1) 2
    have z1' : f_X7_fail 2 μ1 = some μ2 := z1
    have hx' : pFx ν1 := by unfold pFx; rw [f.2.1]; exact pr_n0 f.1.2.2.2.1
    refine ⟨μ2, ν1, ?_, ?_, pEcT hc z3, hr, Or.inr (Or.inr ⟨⟨w, p1, z2.1, f.2⟩, z2.2⟩)⟩
    · rw [f.1.2.2.1, if_neg (by decide), if_neg (by decide), if_neg (by decide)]
      unfold f_X7_readComparison_51
      rw [if_pos rfl, z1', pq_bndS]
    · rw [fx_is hx', pq_bndS, if_pos rfl, fx_is hx', pq_bndS, if_pos rfl]
      exact rf 3005 ν1 (fx_is hx' _) (fx_is hx' _) (fx_is hx' _) (fx_fails hx' _) hx'
