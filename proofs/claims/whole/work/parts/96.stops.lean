/-! ===== 96: the readers of laws, once stopped ===== -/
def pEc (μ μ' : zz_Mem) : Prop := pq_fr [23, 24, 30] μ μ' ∧ μ'.2 = μ.2 ∧ μ'.1 30 2 = μ.1 30 2 ∧ μ'.1 30 9 = μ.1 30 9 ∧ (∀ j, j ≠ 3 → μ'.1 23 j = μ.1 23 j) ∧ p8 μ μ'
theorem pEc0 (μ : zz_Mem) : pEc μ μ := ⟨pq_fr0 μ, rfl, rfl, rfl, fun _ _ => rfl, fun z => ⟨z, rfl⟩⟩
theorem pEcT {μ μ1 μ2 : zz_Mem} (h : pEc μ μ1) (g : pEc μ1 μ2) : pEc μ μ2 := ⟨pq_frT h.1 g.1, g.2.1.trans h.2.1, g.2.2.1.trans h.2.2.1, g.2.2.2.1.trans h.2.2.2.1, fun j a => (g.2.2.2.2.1 j a).trans (h.2.2.2.2.1 j a), p8T h.2.2.2.2.2 g.2.2.2.2.2⟩
theorem pEc_N {μ μ' : zz_Mem} (h : pNx μ μ') : pEc μ μ' := ⟨pq_frW h.1 (by simp), h.2.1, h.2.2.1, h.2.2.2.1, fun j _ => by rw [(h.1 23 (by simp)).1], h.2.2.2.2⟩
theorem pTxc_E {B : Nat → Nat} {len : Nat} {μ μ' : zz_Mem} (h : pTxc B len μ) (g : pEc μ μ') : pTxc B len μ' := ⟨h.1, fun j hj => by rw [(g.1 1 (by simp)).1]; exact h.2.1 j hj, g.2.2.1.trans h.2.2.1, by rw [g.2.1]; exact h.2.2.2⟩
def pSc (B : Nat → Nat) (len w p : Nat) (μ : zz_Mem) : Prop := pSto B len w p μ ∧ ∃ N, N ≤ 900 ∧ μ.1 23 3 = nI N
def pSd (B : Nat → Nat) (len w p : Nat) (o : Option zz_Mem) (μ : zz_Mem) : Prop := ∃ μ', o = some μ' ∧ pSc B len w p μ' ∧ pEc μ μ'
theorem sc_add {B : Nat → Nat} {len w p : Nat} {μ : zz_Mem} (h : pSc B len w p μ) (c : Int32) : pSd B len w p (f_X3_add c μ) μ := by
  obtain ⟨⟨h1, ⟨b, hb, h3⟩, h4, hw, h7, h8⟩, N, hN, hc⟩ := h
  have l : (900 : Int32) = nI 900 := rfl
  unfold f_X3_add
  rw [hc, l]
  by_cases e : 900 ≤ N
  · rw [if_pos (nI_le e (by omega))]
    exact ⟨μ, rfl, ⟨⟨h1, ⟨b, hb, h3⟩, h4, hw, h7, h8⟩, N, hN, hc⟩, pEc0 μ⟩
  · rw [if_neg (nI_ge (by omega) (by omega)), pq_ixE (by omega) (by decide), nI_clamp (by omega), pq_letM, pz_In _ _ _ (show (23 : Nat) ≠ 24 by decide), hc, nI_1, pq_letM]
    have g : pEc μ (zz_setI (zz_setI μ 24 N c) 23 3 (nI (N + 1))) := ⟨pq_frI (pq_frI (pq_fr0 μ) _ _ (by simp)) _ _ (by simp), rfl, rfl, rfl, fun j hj => by rw [qx_isN hj, pz_In _ _ _ (by decide)], fun z => ⟨z, rfl⟩⟩
    exact ⟨_, rfl, ⟨⟨pTxc_E h1 g, ⟨b, hb, h3⟩, h4, hw, h7, h8⟩, N + 1, by omega, qx_isE⟩, g⟩
theorem sc_mk {B : Nat → Nat} {len w p : Nat} {μ μ' : zz_Mem} (h : pSc B len w p μ) (g : pSto B len w p μ') (n : pNx μ μ') : pSc B len w p μ' := by
  obtain ⟨N, hN, hc⟩ := h.2
  exact ⟨g, N, hN, by rw [(n.1 23 (by simp)).1]; exact hc⟩
theorem sc_next {B : Nat → Nat} {len w p : Nat} {μ : zz_Mem} (h : pSc B len w p μ) : pSd B len w p (f_X7_next μ) μ := by
  obtain ⟨⟨h1, ⟨b, hb, h3⟩, h4, hw, h7, h8⟩, N, hN, hc⟩ := id h
  obtain ⟨μ', y1, y2, y3, y4, y5, y6⟩ := pc_stop h1 hb h3 (by rw [h7]; exact pr_n0 hw)
  exact ⟨μ', y1, sc_mk h ⟨pTxc_N h1 y2, y3, y4, hw, y5.trans h7, y6.trans h8⟩ y2, pEc_N y2⟩
theorem sc_fail {B : Nat → Nat} {len w p : Nat} {μ : zz_Mem} (h : pSc B len w p μ) (w0 : Nat) : pSd B len w p (f_X7_fail (nI w0) μ) μ := by
  obtain ⟨μ', y1, y2, y3⟩ := pc_fail (w0 := w0) h.1
  exact ⟨μ', y1, sc_mk h y3 y2, pEc_N y2⟩
theorem sc_takeWord {B : Nat → Nat} {len w p : Nat} {μ : zz_Mem} (h : pSc B len w p μ) (v : Nat) : pSd B len w p (f_X7_takeWord v μ) μ := by
  obtain ⟨μ', y1, y2, y3⟩ := sc_fail h 2
  have y1' : f_X7_fail 2 μ = some μ' := y1
  unfold f_X7_takeWord
  rw [pc_isW0 h.1, pq_bndS, if_pos rfl, y1', pq_bndS]
  exact ⟨μ', rfl, y2, y3⟩
theorem sc_takeSign {B : Nat → Nat} {len w p : Nat} {μ : zz_Mem} (h : pSc B len w p μ) {c : Int32} (hc : ¬ (3 : Int32) = c) : pSd B len w p (f_X7_takeSign c μ) μ := by
  obtain ⟨μ', y1, y2, y3⟩ := sc_fail h 2
  have y1' : f_X7_fail 2 μ = some μ' := y1
  unfold f_X7_takeSign
  rw [h.1.2.2.1, if_neg hc, y1', pq_bndS]
  exact ⟨μ', rfl, y2, y3⟩
theorem sc_takeNumber {B : Nat → Nat} {len w p : Nat} {μ : zz_Mem} (h : pSc B len w p μ) (c d : Int32) : ∃ v μ', f_X7_takeNumber c d μ = some (v, μ') ∧ pSc B len w p μ' ∧ pEc μ μ' := by
  obtain ⟨μ', y1, y2, y3⟩ := sc_fail h 2
  have y1' : f_X7_fail 2 μ = some μ' := y1
  unfold f_X7_takeNumber
  rw [pq_letI, h.1.2.2.1, if_neg (by decide), y1', pq_bndS]
  exact ⟨_, μ', rfl, y2, y3⟩
theorem sc_variable {B : Nat → Nat} {len w p : Nat} {μ : zz_Mem} (h : pSc B len w p μ) : pSd B len w p (f_X7_readVariable μ) μ := by
  obtain ⟨μ', y1, y2, y3⟩ := sc_fail h 2
  have y1' : f_X7_fail 2 μ = some μ' := y1
  have k := pc_isW0 h.1
  have e1 : f_X7_opensVariable μ = some (-1) := by
    unfold f_X7_opensVariable
    rw [k, pq_bndS, if_pos rfl, k, pq_bndS, if_pos rfl, k, pq_bndS, if_pos rfl]
  have e2 : f_X7_ratesVariable μ = some (-1) := by
    unfold f_X7_ratesVariable
    rw [k, pq_bndS, if_pos rfl, k, pq_bndS, if_pos rfl, k, pq_bndS, if_pos rfl, k, pq_bndS, if_pos rfl, k, pq_bndS, if_pos rfl]
  have e3 : f_X7_readVariable_18 (-1) μ = some μ' := by
    unfold f_X7_readVariable_18
    rw [if_pos rfl, y1', pq_bndS]
  unfold f_X7_readVariable
  simp only [e1, e2, pq_bndS, e3]
  split <;> exact ⟨μ', rfl, y2, y3⟩
theorem sc_atom {B : Nat → Nat} {len w p : Nat} {μ : zz_Mem} (h : pSc B len w p μ) (n : Nat) (d : Int32) : pSd B len w p (grp_X7 (n + 1) 2 d μ) μ := by
  obtain ⟨μ', y1, y2, y3⟩ := sc_variable h
  show pSd B len w p (f_X7_readAtom (grp_X7 n) d μ) μ
  unfold f_X7_readAtom
  rw [h.1.2.2.1, if_neg (by decide), if_neg (by decide), pc_isW0 h.1, pq_bndS, if_pos rfl, y1, pq_bndS]
  exact ⟨μ', rfl, y2, y3⟩
theorem sc_term {B : Nat → Nat} {len w p : Nat} {μ : zz_Mem} (h : pSc B len w p μ) (n : Nat) (d : Int32) : pSd B len w p (grp_X7 (n + 2) 1 d μ) μ := by
  obtain ⟨μ', y1, y2, y3⟩ := sc_atom h n d
  have hz : zz_fuel = 4999 + 1 := rfl
  show pSd B len w p (f_X7_readTerm (grp_X7 (n + 1)) d μ) μ
  unfold f_X7_readTerm
  rw [y1, pq_bndS, hz, f_X7_readTerm_7, if_neg (by decide), y2.1.2.2.1, if_neg (by decide)]
  exact ⟨μ', rfl, y2, y3⟩
theorem sc_sum {B : Nat → Nat} {len w p : Nat} {μ : zz_Mem} (h : pSc B len w p μ) (n : Nat) (d : Int32) : pSd B len w p (grp_X7 (n + 3) 0 d μ) μ := by
  obtain ⟨μ', y1, y2, y3⟩ := sc_term h n d
  have hz : zz_fuel = 4999 + 1 := rfl
  show pSd B len w p (f_X7_readSum (grp_X7 (n + 2)) d μ) μ
  unfold f_X7_readSum
  rw [y1, pq_bndS, hz, f_X7_readSum_7, if_neg (by decide), y2.1.2.2.1, if_neg (by decide), if_neg (by decide)]
  exact ⟨μ', rfl, y2, y3⟩
theorem sc_comp {B : Nat → Nat} {len w p : Nat} {μ : zz_Mem} (h : pSc B len w p μ) (n : Nat) (d : Int32) : pSd B len w p (grp_X7 (n + 4) 7 d μ) μ := by
  obtain ⟨μ', y1, y2, y3⟩ := sc_sum h n d
  obtain ⟨μ2, z1, z2, z3⟩ := sc_fail y2 2
  have z1' : f_X7_fail 2 μ' = some μ2 := z1
  show pSd B len w p (f_X7_readComparison (grp_X7 (n + 3)) d μ) μ
  unfold f_X7_readComparison f_X7_readComparison_51
  rw [y1, pq_bndS, y2.1.2.2.1, if_neg (by decide), if_neg (by decide), if_neg (by decide), if_pos rfl, z1', pq_bndS]
  exact ⟨μ2, rfl, z2, pEcT y3 z3⟩
theorem sc_unit {B : Nat → Nat} {len w p : Nat} {μ : zz_Mem} (h : pSc B len w p μ) (n : Nat) (d : Int32) : pSd B len w p (grp_X7 (n + 5) 6 d μ) μ := by
  obtain ⟨μ', y1, y2, y3⟩ := sc_comp h n d
  show pSd B len w p (f_X7_readUnit (grp_X7 (n + 4)) d μ) μ
  unfold f_X7_readUnit
  rw [pc_isW0 h.1, pq_bndS, if_pos rfl, h.1.2.2.1, if_neg (by decide), y1, pq_bndS]
  exact ⟨μ', rfl, y2, y3⟩
theorem sc_both {B : Nat → Nat} {len w p : Nat} {μ : zz_Mem} (h : pSc B len w p μ) (n : Nat) (d : Int32) : pSd B len w p (grp_X7 (n + 6) 5 d μ) μ := by
  obtain ⟨μ', y1, y2, y3⟩ := sc_unit h n d
  have hz : zz_fuel = 4999 + 1 := rfl
  show pSd B len w p (f_X7_readBoth (grp_X7 (n + 5)) d μ) μ
  unfold f_X7_readBoth
  rw [y1, pq_bndS, hz, f_X7_readBoth_7, if_neg (by decide), pc_isW0 y2.1, pq_bndS, if_pos rfl]
  exact ⟨μ', rfl, y2, y3⟩
theorem sc_truth {B : Nat → Nat} {len w p : Nat} {μ : zz_Mem} (h : pSc B len w p μ) (n : Nat) (d : Int32) : pSd B len w p (grp_X7 (n + 7) 4 d μ) μ := by
  obtain ⟨μ', y1, y2, y3⟩ := sc_both h n d
  have hz : zz_fuel = 4999 + 1 := rfl
  show pSd B len w p (f_X7_readTruth (grp_X7 (n + 6)) d μ) μ
  unfold f_X7_readTruth
  rw [y1, pq_bndS, hz, f_X7_readTruth_7, if_neg (by decide), pc_isW0 y2.1, pq_bndS, if_pos rfl]
  exact ⟨μ', rfl, y2, y3⟩
/-- the reference, failed: nothing changes -/
def pFx (ν : zz_Mem) : Prop := ¬ ν.1 0 11 = 0
theorem fx_is {ν : zz_Mem} (h : pFx ν) (k : Int32) : f_X12_is ν k = some 0 := by unfold f_X12_is; rw [if_neg h]
theorem fx_eats {ν : zz_Mem} (h : pFx ν) (k : Int32) : f_X12_eats k ν = some (0, ν) := by unfold f_X12_eats; rw [fx_is h, pq_bndS, if_pos rfl]
theorem fx_fails {ν : zz_Mem} (h : pFx ν) (k : Int32) : f_X12_fails k ν = some ν := by unfold f_X12_fails; rw [if_neg h]
theorem fx_codes {ν : zz_Mem} (h : pFx ν) (k : Int32) : f_X12_codes k ν = some ν := by unfold f_X12_codes; rw [if_neg h]
theorem fx_takes {ν : zz_Mem} (h : pFx ν) (a b : Int32) : f_X12_takes a b ν = some (ν.1 0 10, ν) := by
  unfold f_X12_takes f_X12_takes_37
  rw [fx_is h, pq_bndS, if_pos rfl, fx_fails h, pq_bndS, pq_letI, if_neg h]
theorem fx_named {ν : zz_Mem} (h : pFx ν) (k a b : Int32) : f_X12_named k a b ν = some (ν.1 0 10, ν) := by
  unfold f_X12_named f_X12_named_13
  rw [fx_eats h, pq_bnd2, if_pos rfl, fx_fails h, pq_bndS, fx_takes h, pq_bnd2]
theorem fx_atom {ν : zz_Mem} (h : pFx ν) (n : Nat) (d : Int32) : grp_X12 (n + 1) 2 d ν = some ν := by
  show f_X12_readAtom (grp_X12 n) d ν = _
  unfold f_X12_readAtom f_X12_readAtom_66
  rw [fx_is h, pq_bndS, if_pos rfl, if_neg h, fx_is h, pq_bndS, if_pos rfl, fx_is h, pq_bndS, if_pos rfl, fx_fails h, pq_bndS]
theorem fx_term {ν : zz_Mem} (h : pFx ν) (n : Nat) (d : Int32) : grp_X12 (n + 2) 1 d ν = some ν := by
  have hz : zz_fuel = 4999 + 1 := rfl
  show f_X12_readTerm (grp_X12 (n + 1)) d ν = _
  unfold f_X12_readTerm
  rw [fx_atom h, pq_bndS, hz, f_X12_readTerm_5, fx_eats h, pq_bnd2, if_pos rfl]
theorem fx_sum {ν : zz_Mem} (h : pFx ν) (n : Nat) (d : Int32) : grp_X12 (n + 3) 0 d ν = some ν := by
  have hz : zz_fuel = 4999 + 1 := rfl
  show f_X12_readSum (grp_X12 (n + 2)) d ν = _
  unfold f_X12_readSum
  rw [fx_term h, pq_bndS, hz, f_X12_readSum_5, fx_is h, pq_bndS, if_pos rfl, fx_is h, pq_bndS, if_pos rfl]
theorem fx_unit {ν : zz_Mem} (h : pFx ν) (n : Nat) (d : Int32) : grp_X12 (n + 4) 6 d ν = some ν := by
  show f_X12_readUnit (grp_X12 (n + 3)) d ν = _
  unfold f_X12_readUnit f_X12_readUnit_111 f_X12_readUnit_151
  simp only [fx_is h, pq_bndS, fx_sum h, fx_fails h, fx_codes h, if_true]
theorem fx_both {ν : zz_Mem} (h : pFx ν) (n : Nat) (d : Int32) : grp_X12 (n + 5) 5 d ν = some ν := by
  have hz : zz_fuel = 4999 + 1 := rfl
  show f_X12_readBoth (grp_X12 (n + 4)) d ν = _
  unfold f_X12_readBoth
  rw [fx_unit h, pq_bndS, hz, f_X12_readBoth_5, fx_eats h, pq_bnd2, if_pos rfl]
theorem fx_truth {ν : zz_Mem} (h : pFx ν) (n : Nat) (d : Int32) : grp_X12 (n + 6) 4 d ν = some ν := by
  have hz : zz_fuel = 4999 + 1 := rfl
  show f_X12_readTruth (grp_X12 (n + 5)) d ν = _
  unfold f_X12_readTruth
  rw [fx_both h, pq_bndS, hz, f_X12_readTruth_5, fx_eats h, pq_bnd2, if_pos rfl]
/-- the reference before a sign that is none: it fails there, whatever it reads -/
theorem bx_all {B : Nat → Nat} {len p : Nat} {μ ν ν1 : zz_Mem} (h : pBad B len p μ ν) (e : f_X12_fails 2 ν = some ν1) (f : pFx ν1) (n : Nat) (d : Int32) : grp_X12 (n + 1) 2 d ν = some ν1 ∧ grp_X12 (n + 2) 1 d ν = some ν1 ∧ grp_X12 (n + 3) 0 d ν = some ν1 ∧ grp_X12 (n + 4) 6 d ν = some ν1 ∧ grp_X12 (n + 5) 5 d ν = some ν1 ∧ grp_X12 (n + 6) 4 d ν = some ν1 := by
  have hz : zz_fuel = 4999 + 1 := rfl
  have is : ∀ k, k < 44 → k ≠ 31 → f_X12_is ν (nI k) = some 0 := fun k k1 k2 => pr_isB h k1 k2
  have i29 : f_X12_is ν 29 = some 0 := is 29 (by omega) (by omega)
  have i37 : f_X12_is ν 37 = some 0 := is 37 (by omega) (by omega)
  have i15 : f_X12_is ν 15 = some 0 := is 15 (by omega) (by omega)
  have i27 : f_X12_is ν 27 = some 0 := is 27 (by omega) (by omega)
  have i39 : f_X12_is ν 39 = some 0 := is 39 (by omega) (by omega)
  have ew : f_X12_wordOf ν (ν.1 0 9) = some (-1) := by
    rw [h.2.2.2.2.1]
    unfold f_X12_wordOf
    split <;> rfl
  have a1 : grp_X12 (n + 1) 2 d ν = some ν1 := by
    show f_X12_readAtom (grp_X12 n) d ν = _
    unfold f_X12_readAtom f_X12_readAtom_66
    rw [i29, pq_bndS, if_pos rfl, if_pos h.2.2.2.2.2, ew, pq_bndS, if_pos rfl, i37, pq_bndS, if_pos rfl, i15, pq_bndS, if_pos rfl, e, pq_bndS]
  have a2 : grp_X12 (n + 2) 1 d ν = some ν1 := by
    show f_X12_readTerm (grp_X12 (n + 1)) d ν = _
    unfold f_X12_readTerm
    rw [a1, pq_bndS, hz, f_X12_readTerm_5, fx_eats f, pq_bnd2, if_pos rfl]
  have a3 : grp_X12 (n + 3) 0 d ν = some ν1 := by
    show f_X12_readSum (grp_X12 (n + 2)) d ν = _
    unfold f_X12_readSum
    rw [a2, pq_bndS, hz, f_X12_readSum_5, fx_is f, pq_bndS, if_pos rfl, fx_is f, pq_bndS, if_pos rfl]
  have a4 : grp_X12 (n + 4) 6 d ν = some ν1 := by
    show f_X12_readUnit (grp_X12 (n + 3)) d ν = _
    unfold f_X12_readUnit f_X12_readUnit_111 f_X12_readUnit_151
    rw [i27, pq_bndS, if_pos rfl, i39, pq_bndS, if_pos rfl, a3, pq_bndS]
    simp only [fx_is f, pq_bndS, fx_sum f, fx_fails f, fx_codes f, if_true]
  have a5 : grp_X12 (n + 5) 5 d ν = some ν1 := by
    show f_X12_readBoth (grp_X12 (n + 4)) d ν = _
    unfold f_X12_readBoth
    rw [a4, pq_bndS, hz, f_X12_readBoth_5, fx_eats f, pq_bnd2, if_pos rfl]
  refine ⟨a1, a2, a3, a4, a5, ?_⟩
  show f_X12_readTruth (grp_X12 (n + 5)) d ν = _
  unfold f_X12_readTruth
  rw [a5, pq_bndS, hz, f_X12_readTruth_5, fx_eats f, pq_bnd2, if_pos rfl]
/-- both stopped -/
def pZs (B : Nat → Nat) (len : Nat) (μ ν : zz_Mem) : Prop := ((∃ p, pBad B len p μ ν) ∨ ∃ w p, pFld B len w p μ ν) ∧ ∃ N, N ≤ 900 ∧ μ.1 23 3 = nI N
def pZF (B : Nat → Nat) (len : Nat) (μ ν : zz_Mem) : Prop := (∃ w p, pFld B len w p μ ν) ∧ ∃ N, N ≤ 900 ∧ μ.1 23 3 = nI N
/-- what both do, once stopped -/
def pZd (B : Nat → Nat) (len : Nat) (F G : zz_Mem → Option zz_Mem) : Prop := ∀ μ ν, pZs B len μ ν → ∃ μ' ν', F μ = some μ' ∧ G ν = some ν' ∧ pZF B len μ' ν' ∧ pEc μ μ' ∧ pNz ν ν'
theorem pz_mk {B : Nat → Nat} {len : Nat} {F G : zz_Mem → Option zz_Mem} (hF : ∀ w p μ, pSc B len w p μ → pSd B len w p (F μ) μ) (hG : ∀ ν, pFx ν → G ν = some ν) (hB : ∀ p μ ν ν1, pBad B len p μ ν → f_X12_fails 2 ν = some ν1 → pFx ν1 → G ν = some ν1) : pZd B len F G := by
  intro μ ν ⟨h, hN⟩
  rcases h with ⟨p, h⟩ | ⟨w, p, h⟩
  · obtain ⟨μ', y1, y2, y3⟩ := hF 1 p μ ⟨h.1, hN⟩
    obtain ⟨ν1, z1, z2, z3, z4⟩ := pr_failB 2 h
    have hx : pFx ν1 := by unfold pFx; rw [z3]; exact pr_n0 (by omega)
    exact ⟨μ', ν1, y1, hB p μ ν ν1 h z1 hx, ⟨⟨1, p, y2.1, z3, z4⟩, y2.2⟩, y3, z2⟩
  · obtain ⟨μ', y1, y2, y3⟩ := hF w p μ ⟨h.1, hN⟩
    exact ⟨μ', ν, y1, hG ν (by unfold pFx; rw [h.2.1]; exact pr_n0 h.1.2.2.2.1), ⟨⟨w, p, y2.1, h.2⟩, y2.2⟩, y3, pNz0 ν⟩
theorem pz_atom {B : Nat → Nat} {len : Nat} (n n' : Nat) (d : Int32) : pZd B len (grp_X7 (n + 1) 2 d) (grp_X12 (n' + 1) 2 d) := pz_mk (fun _ _ _ h => sc_atom h n d) (fun _ h => fx_atom h n' d) (fun _ _ _ _ h e f => (bx_all h e f n' d).1)
theorem pz_term {B : Nat → Nat} {len : Nat} (n n' : Nat) (d : Int32) : pZd B len (grp_X7 (n + 2) 1 d) (grp_X12 (n' + 2) 1 d) := pz_mk (fun _ _ _ h => sc_term h n d) (fun _ h => fx_term h n' d) (fun _ _ _ _ h e f => (bx_all h e f n' d).2.1)
theorem pz_sum {B : Nat → Nat} {len : Nat} (n n' : Nat) (d : Int32) : pZd B len (grp_X7 (n + 3) 0 d) (grp_X12 (n' + 3) 0 d) := pz_mk (fun _ _ _ h => sc_sum h n d) (fun _ h => fx_sum h n' d) (fun _ _ _ _ h e f => (bx_all h e f n' d).2.2.1)
theorem pz_unit {B : Nat → Nat} {len : Nat} (n n' : Nat) (d : Int32) : pZd B len (grp_X7 (n + 5) 6 d) (grp_X12 (n' + 4) 6 d) := pz_mk (fun _ _ _ h => sc_unit h n d) (fun _ h => fx_unit h n' d) (fun _ _ _ _ h e f => (bx_all h e f n' d).2.2.2.1)
theorem pz_both {B : Nat → Nat} {len : Nat} (n n' : Nat) (d : Int32) : pZd B len (grp_X7 (n + 6) 5 d) (grp_X12 (n' + 5) 5 d) := pz_mk (fun _ _ _ h => sc_both h n d) (fun _ h => fx_both h n' d) (fun _ _ _ _ h e f => (bx_all h e f n' d).2.2.2.2.1)
theorem pz_truth {B : Nat → Nat} {len : Nat} (n n' : Nat) (d : Int32) : pZd B len (grp_X7 (n + 7) 4 d) (grp_X12 (n' + 6) 4 d) := pz_mk (fun _ _ _ h => sc_truth h n d) (fun _ h => fx_truth h n' d) (fun _ _ _ _ h e f => (bx_all h e f n' d).2.2.2.2.2)
