/-! ===== 83: told factors: which shifts, which day to ask for ===== -/
def pbit (x : Int32) (s : Nat) : Bool := x.toBitVec.getLsbD s
theorem pbit_c (x : Int32) {s : Nat} (hs : s < 10) : ((x >>> (nI s &&& 31)) &&& (1 : Int32)) = (1 : Int32) ↔ pbit x s = true := by
  have e : ((nI s &&& 31).toBitVec.smod 32).toNat = s := by
    have : s = 0 ∨ s = 1 ∨ s = 2 ∨ s = 3 ∨ s = 4 ∨ s = 5 ∨ s = 6 ∨ s = 7 ∨ s = 8 ∨ s = 9 := by omega
    rcases this with rfl | rfl | rfl | rfl | rfl | rfl | rfl | rfl | rfl | rfl <;> decide
  have h1 : ((x >>> (nI s &&& 31)) &&& (1 : Int32)).toBitVec = (x.toBitVec.sshiftRight s) &&& 1#32 := by
    rw [Int32.toBitVec_and, Int32.toBitVec_shiftRight]
    show (x.toBitVec.sshiftRight ((nI s &&& 31).toBitVec.smod 32).toNat) &&& 1#32 = _
    rw [e]
  rw [← Int32.toBitVec_inj, h1, BitVec.and_one_eq_setWidth_ofBool_getLsbD, BitVec.getLsbD_sshiftRight]
  have e2 : (!decide (32 ≤ 0) && if s + 0 < 32 then x.toBitVec.getLsbD (s + 0) else x.toBitVec.msb) = pbit x s := by
    rw [if_pos (by omega), Nat.add_zero]; rfl
  rw [e2]
  cases pbit x s <;> decide
theorem pbit_r (x : Int32) {s : Nat} (hs : s < 10) : f_X12_isIn x.toInt64 (nI s) = some (pd_b (pbit x s)) := by
  have e : (((nI s).toInt64 &&& 63).toBitVec.smod 64).toNat = s := by
    have : s = 0 ∨ s = 1 ∨ s = 2 ∨ s = 3 ∨ s = 4 ∨ s = 5 ∨ s = 6 ∨ s = 7 ∨ s = 8 ∨ s = 9 := by omega
    rcases this with rfl | rfl | rfl | rfl | rfl | rfl | rfl | rfl | rfl | rfl <;> decide
  have h1 : ((x.toInt64 >>> ((nI s).toInt64 &&& 63)) &&& (1 : Int64)).toBitVec = ((x.toBitVec.signExtend 64).sshiftRight s) &&& 1#64 := by
    rw [Int64.toBitVec_and, Int64.toBitVec_shiftRight]
    show (x.toInt64.toBitVec.sshiftRight (((nI s).toInt64 &&& 63).toBitVec.smod 64).toNat) &&& 1#64 = _
    rw [e, Int32.toBitVec_toInt64]
  have key : ((x.toInt64 >>> ((nI s).toInt64 &&& 63)) &&& (1 : Int64)) = (1 : Int64) ↔ pbit x s = true := by
    rw [← Int64.toBitVec_inj, h1, BitVec.and_one_eq_setWidth_ofBool_getLsbD, BitVec.getLsbD_sshiftRight]
    have e2 : (!decide (64 ≤ 0) && if s + 0 < 64 then (x.toBitVec.signExtend 64).getLsbD (s + 0) else (x.toBitVec.signExtend 64).msb) = pbit x s := by
      rw [if_pos (by omega), Nat.add_zero, BitVec.getLsbD_signExtend, if_pos (by omega)]
      simp [pbit]
      omega
    rw [e2]
    cases pbit x s <;> decide
  unfold f_X12_isIn
  by_cases c : ((x.toInt64 >>> ((nI s).toInt64 &&& 63)) &&& (1 : Int64)) = (1 : Int64)
  · rw [if_pos c, key.mp c]; rfl
  · rw [if_neg c]
    have : pbit x s = false := by
      cases h : pbit x s with
      | false => rfl
      | true => exact absurd (key.mpr h) c
    rw [this]; rfl
/-- a told tray: refused alike -/
theorem pt_told {μ ν : zz_Mem} (hx : ∀ t, t < 4 → pX_tray μ ν t) (p1 : Int32) : (∃ t sz, t < 4 ∧ p1 = nI t ∧ 1 ≤ sz ∧ sz ≤ 8 ∧ f_X11_toldRefusal μ p1 = some 0 ∧ f_X12_noTold ν p1 = some 0 ∧ μ.1 (99 + 2 * t) 2 = nI sz ∧ ν.1 24 t = nI sz ∧ (∀ j, j < sz → μ.2.1 (99 + 2 * t + 1) j = ν.2.1 25 (40 * t + j)) ∧ ∀ j, j < sz → 0 ≤ (ν.2.1 25 (40 * t + j)).toInt ∧ (ν.2.1 25 (40 * t + j)).toInt ≤ 999999999999) ∨ (∃ r, ¬ r = 0 ∧ f_X11_toldRefusal μ p1 = some r ∧ f_X12_noTold ν p1 = some r) := by
  unfold f_X11_toldRefusal f_X12_noTold
  have hfu : zz_fuel = 5000 := rfl
  have l1 : (1 : Int32) = nI 1 := rfl
  have l8 : (8 : Int32) = nI 8 := rfl
  have l40 : (40 : Int32) = nI 40 := rfl
  have a1 : (1 : Int64).toInt = 1 := rfl
  have a8 : (8 : Int64).toInt = 8 := rfl
  have a0 : (0 : Int64).toInt = 0 := rfl
  have aM : (999999999999 : Int64).toInt = 999999999999 := rfl
  rcases pt_no hx p1 with ⟨t, sz, so, t1, t2, t3, t4, t5, t6, t7, t8, t9, t10, t11, t12⟩ | ⟨t, t1, t2, t5, t6, t7⟩ | ⟨t5, t7⟩
  · rw [t5, t7, pq_bndS, pq_bndS, if_pos rfl, if_pos rfl, t2]
    simp (disch := omega) only [qx_ix, qx_cl]
    rw [t6, pq_bndS, if_pos rfl, t8, t9, l8]
    have e9 : (nI sz).toInt64.toInt = (sz : Int) := by rw [Int32.toInt_toInt64, nI_toInt (by omega)]
    rcases pi_within (nI sz).toInt64 1 8 with ⟨g1, g2, g3⟩ | ⟨g1, g3⟩
    · rw [a1, e9] at g1
      rw [a8, e9] at g2
      rw [g3, pq_bndS, if_neg (show ¬ (1 : Int32) = 0 by decide), if_neg (show ¬ nI sz < 1 by rw [l1]; exact nI_nlt (by omega) (by omega)), if_pos (nI_le (by omega) (by omega))]
      have loop : ∀ (r k fuel : Nat), k + r = sz → r < fuel → (∀ j, j < k → 0 ≤ (ν.2.1 25 (40 * t + j)).toInt ∧ (ν.2.1 25 (40 * t + j)).toInt ≤ 999999999999) → (f_X11_toldRefusal_58 μ fuel (nI t) (nI k) = some 0 ∧ f_X12_noTold_34 ν fuel (nI t) (nI k) = some 0 ∧ ∀ j, j < sz → 0 ≤ (ν.2.1 25 (40 * t + j)).toInt ∧ (ν.2.1 25 (40 * t + j)).toInt ≤ 999999999999) ∨ (f_X11_toldRefusal_58 μ fuel (nI t) (nI k) = some (-3) ∧ f_X12_noTold_34 ν fuel (nI t) (nI k) = some (-3)) := by
        intro r
        induction r with
        | zero =>
          intro k fuel h1 h2 h3
          obtain ⟨fu, rfl⟩ : ∃ n, fuel = n + 1 := ⟨fuel - 1, by omega⟩
          rw [f_X11_toldRefusal_58, f_X12_noTold_34]
          simp (disch := omega) only [qx_ix, qx_cl]
          rw [t8, t9, if_pos (nI_le (by omega) (by omega)), if_pos (nI_le (by omega) (by omega))]
          exact Or.inl ⟨rfl, rfl, fun j hj => h3 j (by omega)⟩
        | succ r ih =>
          intro k fuel h1 h2 h3
          obtain ⟨fu, rfl⟩ : ∃ n, fuel = n + 1 := ⟨fuel - 1, by omega⟩
          rw [f_X11_toldRefusal_58, f_X12_noTold_34, l40, pk_mul, nI_add]
          simp (disch := omega) only [qx_ix, qx_cl]
          rw [t8, t9, if_neg (nI_ge (by omega) (by omega)), if_neg (nI_ge (by omega) (by omega)), t12 k (by omega)]
          rcases pi_within (ν.2.1 25 (40 * t + k)) 0 999999999999 with ⟨q1, q2, q3⟩ | ⟨q1, q3⟩
          · rw [a0] at q1
            rw [aM] at q2
            rw [q3, pq_bndS, if_neg (show ¬ (1 : Int32) = 0 by decide), if_neg (show ¬ ν.2.1 25 (40 * t + k) < 0 by rw [Int64.lt_iff_toInt_lt, a0]; omega), if_pos (show ν.2.1 25 (40 * t + k) ≤ 999999999999 by rw [Int64.le_iff_toInt_le, aM]; omega), pq_letI, pq_letI, nI_1]
            exact ih (k + 1) fu (by omega) (by omega) (fun j hj => by
              by_cases c : j = k
              · rw [c]; exact ⟨q1, q2⟩
              · exact h3 j (by omega))
          · rw [a0, aM] at q1
            right
            rw [q3, pq_bndS, if_pos rfl]
            by_cases c : ν.2.1 25 (40 * t + k) < 0
            · rw [if_pos c]; exact ⟨rfl, rfl⟩
            · rw [if_neg c]
              rw [Int64.lt_iff_toInt_lt, a0] at c
              rw [if_neg (show ¬ ν.2.1 25 (40 * t + k) ≤ 999999999999 by rw [Int64.le_iff_toInt_le, aM]; omega)]; exact ⟨rfl, rfl⟩
      rcases loop sz 0 zz_fuel (by omega) (by omega) (fun j hj => absurd hj (Nat.not_lt_zero _)) with ⟨q1, q2, q3⟩ | ⟨q1, q2⟩
      · rw [nI_0] at q1 q2
        exact Or.inl ⟨t, sz, t1, rfl, by omega, by omega, q1, q2, t8, t9, t12, q3⟩
      · rw [nI_0] at q1 q2
        exact Or.inr ⟨-3, by decide, q1, q2⟩
    · rw [a1, a8, e9] at g1
      right
      refine ⟨-4, by decide, ?_, by rw [g3, pq_bndS, if_pos rfl]⟩
      by_cases c : nI sz < 1
      · rw [if_pos c]
      · rw [if_neg c]
        rw [l1, nI_ltI (by omega) (by decide)] at c
        rw [if_neg (nI_ge (by omega) (by omega))]
  · right
    rw [t5, t7, pq_bndS, pq_bndS, if_pos rfl, if_neg (show ¬ (-6 : Int32) = 0 by decide), t2, pq_ixE (by omega) (by decide), nI_clamp (by omega), t6, pq_bndS, if_neg (show ¬ (1 : Int32) = 0 by decide)]
    exact ⟨-6, by decide, rfl, rfl⟩
  · right
    rw [t5, t7, pq_bndS, pq_bndS, if_neg (show ¬ (1 : Int32) = 0 by decide), if_neg (show ¬ (-2 : Int32) = 0 by decide)]
    exact ⟨-2, by decide, rfl, rfl⟩
/-- whether a curve is as told -/
noncomputable def pTm (a : Nat → Int32) (c : Nat → Nat) (v : Int64) : Bool := decide ((iI (pX a c ((v.toInt / 100000000).toNat)) / 100).toInt64 = v - v / 100000000 * 100000000)
noncomputable def pTr (a : Nat → Int32) (c : Nat → Nat) (V : Nat → Int64) : Nat → Nat → Bool
  | 0, _ => true
  | r + 1, k => pTm a c (V k) && pTr a c V r (k + 1)
theorem pT_day {v : Int64} (h1 : 0 ≤ v.toInt) (h2 : v.toInt ≤ 999999999999) : (v / 100000000).toInt32 = nI ((v.toInt / 100000000).toNat) ∧ (v.toInt / 100000000).toNat < 20000 := by
  have l : (100000000 : Int64) = lI 100000000 := rfl
  have e : v = lI v.toInt := (lI_of v).symm
  have hd : v / 100000000 = lI (v.toInt / 100000000) := by
    conv => lhs; rw [e]
    rw [l, qx_dJ h1 (by omega) (by decide) (by decide)]
  refine ⟨?_, by omega⟩
  rw [hd, lI_i, iI_nI]
  congr 1
  omega
theorem pc_isTold {a st : Nat → Int32} (hv : pv_D a) {m : zz_Mem} (h : pI_c m a st) {c : Nat → Nat} (hw : pc_cw m 88 a c) {t sz : Nat} (hsz : sz ≤ 8) (h2 : m.1 (99 + 2 * t) 2 = nI sz) {V : Nat → Int64} (hV : ∀ j, j < sz → m.2.1 (99 + 2 * t + 1) j = V j ∧ 0 ≤ (V j).toInt ∧ (V j).toInt ≤ 999999999999) : ∀ (r k fuel : Nat), k + r = sz → r < fuel → f_X11_trialIsTold_2 (99 + 2 * t) m fuel (nI k) = some (pd_b (pTr a c V r k)) := by
  intro r
  induction r with
  | zero =>
    intro k fuel h1 h3
    obtain ⟨fu, rfl⟩ : ∃ n, fuel = n + 1 := ⟨fuel - 1, by omega⟩
    rw [f_X11_trialIsTold_2, h2, if_pos (nI_le (by omega) (by omega))]
    rfl
  | succ r ih =>
    intro k fuel h1 h3
    obtain ⟨fu, rfl⟩ : ∃ n, fuel = n + 1 := ⟨fuel - 1, by omega⟩
    obtain ⟨v1, v2, v3⟩ := hV k (by omega)
    obtain ⟨d1, d2⟩ := pT_day v2 v3
    rw [f_X11_trialIsTold_2, h2, if_neg (nI_ge (by omega) (by omega)), pq_ixE (by omega) (by decide), nI_clamp (by omega), v1, d1, pq_letI, pc_X hv h.1 h.2.2.2.1 hw d2, pq_bndS, pq_ixE (by omega) (by decide), pTr]
    by_cases cc : (iI (pX a c ((V k).toInt / 100000000).toNat) / 100).toInt64 = V k - V k / 100000000 * 100000000
    · have e : pTm a c (V k) = true := decide_eq_true cc
      rw [if_pos cc, pq_letI, nI_1, ih (k + 1) fu (by omega) (by omega), e]; rfl
    · have e : pTm a c (V k) = false := decide_eq_false cc
      rw [if_neg cc, e]; rfl
theorem pr_isTold {a : Nat → Int32} (hv : pv_D a) {m0 m : zz_Mem} (hr : pI_r m a) {c : Nat → Nat} (hw : pr_cw m0 m a c) {t sz : Nat} (ht : t < 4) (hsz : sz ≤ 8) (h2 : m.1 24 t = nI sz) {V : Nat → Int64} (hV : ∀ j, j < sz → m.2.1 25 (40 * t + j) = V j ∧ 0 ≤ (V j).toInt ∧ (V j).toInt ≤ 999999999999) (k4 : Int32 → Int32 → Int32 → zz_Mem → Option (Int32 × zz_Mem)) (acc s : Int32) : ∀ (r k fuel : Nat) (b : Bool), k + r = sz → r < fuel → f_X12_shiftsOf_25 k4 fuel (nI t) acc s (pd_b b) (nI k) m = f_X12_shiftsOf_97 k4 (nI t) acc s (pd_b (b && pTr a c V r k)) m := by
  have l40 : (40 : Int32) = nI 40 := rfl
  intro r
  induction r with
  | zero =>
    intro k fuel b h1 h3
    obtain ⟨fu, rfl⟩ : ∃ n, fuel = n + 1 := ⟨fuel - 1, by omega⟩
    rw [f_X12_shiftsOf_25, pq_ixE (by omega) (by decide), nI_clamp (by omega), h2, if_pos (nI_le (by omega) (by omega)), pTr, Bool.and_true]
  | succ r ih =>
    intro k fuel b h1 h3
    obtain ⟨fu, rfl⟩ : ∃ n, fuel = n + 1 := ⟨fuel - 1, by omega⟩
    obtain ⟨v1, v2, v3⟩ := hV k (by omega)
    obtain ⟨d1, d2⟩ := pT_day v2 v3
    have hand : ∀ x y : Bool, pd_b x &&& pd_b y = pd_b (x && y) := by decide
    rw [f_X12_shiftsOf_25, pq_ixE (by omega) (by decide), nI_clamp (by omega), h2, if_neg (nI_ge (by omega) (by omega)), l40, pk_mul, nI_add, pq_ixE (by omega) (by decide), nI_clamp (by omega), v1, d1, pr_X hv hr hw d2, pq_bndS, pq_ixE (by omega) (by decide), pTr]
    unfold f_X12_shiftsOf_88
    by_cases cc : (iI (pX a c ((V k).toInt / 100000000).toNat) / 100).toInt64 = V k - V k / 100000000 * 100000000
    · have e : pTm a c (V k) = true := decide_eq_true cc
      have h1' : (1 : Int32) = pd_b true := rfl
      rw [if_pos cc, pq_letI, pq_letI, nI_1, h1', hand, ih (k + 1) fu _ (by omega) (by omega), e, Bool.and_true, Bool.true_and]
    · have e : pTm a c (V k) = false := decide_eq_false cc
      have h0' : (0 : Int32) = pd_b false := rfl
      rw [if_neg cc, pq_letI, pq_letI, nI_1, h0', hand, ih (k + 1) fu _ (by omega) (by omega), e, Bool.and_false, Bool.false_and, Bool.and_false]
/-- the shifts by which it is as told -/
theorem pj_shifts {a st : Nat → Int32} (hv : pv_D a) {t sz : Nat} (ht : t < 4) (hsz : sz ≤ 8) {V : Nat → Int64} (hVb : ∀ j, j < sz → 0 ≤ (V j).toInt ∧ (V j).toInt ≤ 999999999999) : ∀ (r s fuel : Nat) (acc : Int32) (m ν : zz_Mem), s + r = 10 → r < fuel → pI_c m a st → pI_r ν a → pr_st ν = st → m.1 (99 + 2 * t) 2 = nI sz → ν.1 24 t = nI sz → (∀ j, j < sz → m.2.1 (99 + 2 * t + 1) j = V j) → (∀ j, j < sz → ν.2.1 25 (40 * t + j) = V j) → (∀ s' k, s' < s → k ≤ pL a → m.1 98 (s' * 9 + k) = iI (pFac a (pCnt a st (nI s')) k) / 100) →
    ∃ x m' ν', f_X11_shiftsTold_4 (99 + 2 * t) fuel acc (nI s) m = some (x, m') ∧ f_X12_shiftsOf_4 fuel (nI t) acc (nI s) ν = some (x, ν') ∧ pI_c m' a st ∧ pK_c m m' ∧ pI_r ν' a ∧ pK_r ν ν' ∧ ∀ s' k, s' < 10 → k ≤ pL a → m'.1 98 (s' * 9 + k) = iI (pFac a (pCnt a st (nI s')) k) / 100 := by
  have hfu : zz_fuel = 5000 := rfl
  have hL8 := (pD_D hv).2.1
  have l10 : (10 : Int32) = nI 10 := rfl
  have l9 : (9 : Int32) = nI 9 := rfl
  intro r
  induction r with
  | zero =>
    intro s fuel acc m ν h1 h2 hc hr hs e2 e24 hV hV2 h98
    obtain ⟨fu, rfl⟩ : ∃ n, fuel = n + 1 := ⟨fuel - 1, by omega⟩
    rw [f_X11_shiftsTold_4, f_X12_shiftsOf_4, l10, if_pos (nI_le (by omega) (by omega)), if_pos (nI_le (by omega) (by omega))]
    exact ⟨_, _, _, rfl, rfl, hc, pK_c0 m, hr, pK_r0 ν, fun s' k q1 q2 => h98 s' k (by omega) q2⟩
  | succ r ih =>
    intro s fuel acc m ν h1 h2 hc hr hs e2 e24 hV hV2 h98
    obtain ⟨fu, rfl⟩ : ∃ n, fuel = n + 1 := ⟨fuel - 1, by omega⟩
    obtain ⟨m1, m2, x1, x2, x3, x4, x5, x6⟩ := pc_tryC hv hc (o0 := 13) (Or.inl rfl) (nI s) (s0 := st) hc.2.1.2.1
    obtain ⟨n1, n2, F, y1, y2, y3⟩ := pr_byShift hv hr.1 hr.2 (nI s)
    have y4 := pr_lw y3
    obtain ⟨u1, u2, u3⟩ := pr_cwK y4 hr
    rw [hs] at y4
    rw [f_X11_shiftsTold_4, f_X12_shiftsOf_4, l10, if_neg (nI_ge (by omega) (by omega)), if_neg (nI_ge (by omega) (by omega)), x1, pq_bndS, x2, pq_bndS, y1, pq_bndS, y2, pq_bndS]
    have w24 : n2.1 24 t = nI sz := by rw [u1.1 24 (by omega)]; exact e24
    have wV2 : ∀ j, j < sz → n2.2.1 25 (40 * t + j) = V j := fun j hj => by rw [u1.2.1]; exact hV2 j hj
    have hT := pr_isTold hv u2 y4 ht hsz w24 (V := V) (fun j hj => ⟨wV2 j hj, hVb j hj⟩) (f_X12_shiftsOf_4 fu) acc (nI s) sz 0 zz_fuel true (by omega) (by omega)
    have hT' : f_X12_shiftsOf_25 (f_X12_shiftsOf_4 fu) zz_fuel (nI t) acc (nI s) 1 0 n2 = f_X12_shiftsOf_97 (f_X12_shiftsOf_4 fu) (nI t) acc (nI s) (pd_b (true && pTr a (pCnt a st (nI s)) V sz 0)) n2 := hT
    rw [hT', Bool.true_and]
    have q8 : m2.1 (99 + 2 * t) 2 = nI sz := by rw [(x6 (99 + 2 * t) (by simp <;> omega)).1]; exact e2
    have qV : ∀ j, j < sz → m2.2.1 (99 + 2 * t + 1) j = V j := fun j hj => by rw [(x6 (99 + 2 * t + 1) (by simp <;> omega)).2.1]; exact hV j hj
    have q98 : ∀ s' k, s' < s → k ≤ pL a → m2.1 98 (s' * 9 + k) = iI (pFac a (pCnt a st (nI s')) k) / 100 := fun s' k g1 g2 => by rw [(x6 98 (by simp)).1]; exact h98 s' k g1 g2
    -- the class keeps the factors
    have keep : ∀ (r' k fuel' : Nat) (m3 : zz_Mem), k + r' = pL a + 1 → r' < fuel' → pq_fr [98] m2 m3 → (∀ s' k', s' < s → k' ≤ pL a → m3.1 98 (s' * 9 + k') = iI (pFac a (pCnt a st (nI s')) k') / 100) → (∀ k', k' < k → m3.1 98 (s * 9 + k') = iI (pFac a (pCnt a st (nI s)) k') / 100) → ∃ m4, f_X11_shiftsTold_36 (99 + 2 * t) (f_X11_shiftsTold_4 (99 + 2 * t) fu) fuel' acc (nI s) (nI k) m3 = f_X11_shiftsTold_86 (99 + 2 * t) (f_X11_shiftsTold_4 (99 + 2 * t) fu) acc (nI s) m4 ∧ pq_fr [98] m2 m4 ∧ ∀ s' k', s' < s + 1 → k' ≤ pL a → m4.1 98 (s' * 9 + k') = iI (pFac a (pCnt a st (nI s')) k') / 100 := by
      intro r'
      induction r' with
      | zero =>
        intro k fuel' m3 g1 g2 f g3 g4
        obtain ⟨fu', rfl⟩ : ∃ n, fuel' = n + 1 := ⟨fuel' - 1, by omega⟩
        rw [f_X11_shiftsTold_36, (f 72 (by simp)).1, x3.2.2.2.1.2.1.1, if_pos (nI_le (by omega) (by omega))]
        refine ⟨m3, rfl, f, fun s' k' q1 q2 => ?_⟩
        by_cases cs : s' = s
        · rw [cs]; exact g4 k' (by omega)
        · exact g3 s' k' (by omega) q2
      | succ r' ihr =>
        intro k fuel' m3 g1 g2 f g3 g4
        obtain ⟨fu', rfl⟩ : ∃ n, fuel' = n + 1 := ⟨fuel' - 1, by omega⟩
        have q90 : m3.1 90 k = iI (pFac a (pCnt a st (nI s)) k) := by rw [(f 90 (by simp)).1]; exact x5.2.2 k (by omega)
        rw [f_X11_shiftsTold_36, (f 72 (by simp)).1, x3.2.2.2.1.2.1.1, if_neg (nI_ge (by omega) (by omega)), l9, if_neg (nI_ge (by omega) (by omega)), pq_ixE (by omega) (by decide), pk_mul, nI_add, pq_ixE (by omega) (by decide), nI_clamp (by omega), nI_clamp (by omega), q90, pq_letM, pq_letI, nI_1]
        exact ihr (k + 1) fu' _ (by omega) (by omega) (pq_frI f _ _ (by simp)) (fun s' k' q1 q2 => by rw [qx_isN (by omega)]; exact g3 s' k' q1 q2) (fun k' q1 => by
          by_cases ck : k' = k
          · rw [ck, qx_isE]
          · rw [qx_isN (by omega)]; exact g4 k' (by omega))
    obtain ⟨m4, z1, z2, z3⟩ := keep (pL a + 1) 0 zz_fuel m2 (by omega) (by omega) (pq_fr0 m2) q98 (fun k' q => absurd q (Nat.not_lt_zero _))
    rw [nI_0] at z1
    rw [z1]
    have hc4 : pI_c m4 a st := pI_cF x3 z2 (by simp)
    have hw4 : pc_cw m4 88 a (pCnt a st (nI s)) := pc_cwF x5 z2 (by simp) (by simp)
    have v8 : m4.1 (99 + 2 * t) 2 = nI sz := by rw [(z2 (99 + 2 * t) (by simp <;> omega)).1]; exact q8
    have vV : ∀ j, j < sz → m4.2.1 (99 + 2 * t + 1) j = V j := fun j hj => by rw [(z2 (99 + 2 * t + 1) (by simp <;> omega)).2.1]; exact qV j hj
    have hC := pc_isTold hv hc4 hw4 hsz v8 (V := V) (fun j hj => ⟨vV j hj, hVb j hj⟩) sz 0 zz_fuel (by omega) (by omega)
    rw [nI_0] at hC
    have hC' : f_X11_trialIsTold (99 + 2 * t) m4 = some (pd_b (pTr a (pCnt a st (nI s)) V sz 0)) := hC
    unfold f_X11_shiftsTold_86 f_X12_shiftsOf_97 f_X12_shiftsOf_110
    rw [hC', pq_bndS]
    have kc : pK_c m m4 := pK_cT x4 (pK_cF z2 (by simp))
    have hs2 : pr_st n2 = st := u3.trans hs
    cases pTr a (pCnt a st (nI s)) V sz 0 with
    | false =>
      rw [if_pos (show pd_b false = 0 from rfl), if_pos (show pd_b false = 0 from rfl), pq_letI, pq_letI, pq_letI, Int32.or_zero, nI_1]
      obtain ⟨x, m', ν', w1, w2, w3, w4, w5, w6, w7⟩ := ih (s + 1) fu acc m4 n2 (by omega) (by omega) hc4 u2 hs2 v8 w24 vV wV2 z3
      exact ⟨x, m', ν', w1, w2, w3, pK_cT kc w4, w5, pK_rT u1 w6, w7⟩
    | true =>
      rw [if_neg (show ¬ pd_b true = 0 by decide), if_neg (show ¬ pd_b true = 0 by decide), pq_letI, pq_letI, pq_letI, pq_letI, nI_1]
      obtain ⟨x, m', ν', w1, w2, w3, w4, w5, w6, w7⟩ := ih (s + 1) fu _ m4 n2 (by omega) (by omega) hc4 u2 hs2 v8 w24 vV wV2 z3
      exact ⟨x, m', ν', w1, w2, w3, pK_cT kc w4, w5, pK_rT u1 w6, w7⟩
theorem op_shifts : zL_op33 pI := by
  intro n μ ν p1 ⟨a, hv, hS, hc, hr, hx⟩
  have k0 := pr_t0 hr 0 (by decide) 0
  have htr : ∀ t, t < 4 → pX_tray μ (zz_setI ν 0 0 0) t := fun t ht => hx.2.1 t ht
  have fin := pI_mk hv hS hx hc (pK_c0 μ) k0.2.1 k0.1
  unfold f_X11_shifts f_X12_shifts
  rw [pq_letM]
  generalize zz_setI ν 0 0 0 = ν1 at *
  have hfu : zz_fuel = 5000 := rfl
  rcases pt_told htr p1 with ⟨t, sz, t1, t2, t3, t4, t5, t6, t7, t8, t9, t10⟩ | ⟨r, r0, r1, r2⟩
  · rw [t5, t6, pq_bndS, pq_bndS, if_pos rfl, if_pos rfl, t2, pq_ixE (by omega) (by decide), nI_clamp (by omega)]
    obtain ⟨x, m', ν', w1, w2, w3, w4, w5, w6, w7⟩ := pj_shifts hv (st := pr_st ν) t1 t4 (V := fun j => ν1.2.1 25 (40 * t + j)) t10 10 0 zz_fuel 0 μ ν1 (by omega) (by omega) hc k0.2.1 k0.2.2 t7 t8 t9 (fun _ _ => rfl) (fun s' k q => absurd q (Nat.not_lt_zero _))
    rw [nI_0] at w1 w2
    have w1' : f_X11_shiftsTold (99 + 2 * t) μ = some (x, m') := w1
    have w2' : f_X12_shiftsOf (nI t) ν1 = some (x, ν') := w2
    rw [w1', w2', pq_bnd2, pq_bnd2]
    exact ⟨_, _, _, rfl, rfl, pI_mk hv hS hx w3 w4 w5 (pK_rT k0.1 w6)⟩
  · rw [r1, r2, pq_bndS, pq_bndS, if_neg r0, if_neg r0]
    exact ⟨_, _, _, rfl, rfl, fin⟩
