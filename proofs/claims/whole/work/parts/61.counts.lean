/-! ===== 61: the rates that count; the reference's curves ===== -/
def pg_cl (x : Int32) : Nat := if x.toInt < 0 then 0 else if 999 < x.toInt then 999 else x.toInt.toNat
theorem pg_clB (x : Int32) : pg_cl x ≤ 999 := by
  unfold pg_cl
  split
  · omega
  · split <;> omega
theorem pg_clE {x : Int32} (h : 0 ≤ x.toInt) (h2 : x.toInt ≤ 999) : nI (pg_cl x) = x := by
  unfold pg_cl
  rw [if_neg (by omega), if_neg (by omega)]
  apply Int32.toInt_inj.mp
  rw [nI_toInt (by omega)]
  omega
theorem pg_kept (x : Int32) : f_X12_kept x 0 999 = some (nI (pg_cl x)) := by
  have e0 : (0 : Int32).toInt = 0 := rfl
  have e9 : (999 : Int32).toInt = 999 := rfl
  unfold f_X12_kept
  by_cases h : (0 : Int32) ≤ x
  · rw [if_pos h]
    rw [Int32.le_iff_toInt_le, e0] at h
    by_cases h2 : x ≤ 999
    · rw [if_pos h2]
      rw [Int32.le_iff_toInt_le, e9] at h2
      rw [pg_clE h h2]
    · rw [if_neg h2]
      rw [Int32.le_iff_toInt_le, e9] at h2
      unfold pg_cl
      rw [if_neg (by omega), if_pos (by omega)]
      rfl
  · rw [if_neg h]
    rw [Int32.le_iff_toInt_le, e0] at h
    unfold pg_cl
    rw [if_pos (by omega)]
    rfl
theorem pg_bounds (x : Int32) : f_X11_inRateBounds x = some (nI (pg_cl x)) := by
  have e0 : (0 : Int32).toInt = 0 := rfl
  have e9 : (999 : Int32).toInt = 999 := rfl
  unfold f_X11_inRateBounds f_J9_min_7cf53 f_J9_max_7cf53
  by_cases h2 : x < 999
  · rw [if_pos h2, pq_bndS]
    rw [Int32.lt_iff_toInt_lt, e9] at h2
    by_cases h : (0 : Int32) < x
    · rw [if_pos h, pq_bndS]
      rw [Int32.lt_iff_toInt_lt, e0] at h
      rw [pg_clE (by omega) (by omega)]
    · rw [if_neg h, pq_bndS]
      rw [Int32.lt_iff_toInt_lt, e0] at h
      unfold pg_cl
      by_cases h3 : x.toInt < 0
      · rw [if_pos h3]; rfl
      · rw [if_neg h3, if_neg (by omega), show x.toInt.toNat = 0 by omega]; rfl
  · rw [if_neg h2, pq_bndS, if_pos (by decide), pq_bndS]
    rw [Int32.lt_iff_toInt_lt, e9] at h2
    unfold pg_cl
    rw [if_neg (by omega)]
    by_cases h3 : 999 < x.toInt
    · rw [if_pos h3]; rfl
    · rw [if_neg h3, show x.toInt.toNat = 999 by omega]; rfl
/-- what the words of a law of rates are -/
def pw (a : Nat → Int32) (rate sh : Int32) (i : Nat) : Nat → Int32 := fun j => if j = 0 then rate else if j = 1 then iI ((pE a i : Int) - (pS a i : Int)) else if j = 2 then a (24 + i) else if j = 3 then sh else nI i
def pRaw (a : Nat → Int32) (rate sh : Int32) (i : Nat) : Int32 := if a 6 = 1 then pe_ev (pw a rate sh i) (pd_codes a 0) 0 (fun _ => 0) else rate + sh
def pCnt (a : Nat → Int32) (st : Nat → Int32) (sh : Int32) (i : Nat) : Nat := pg_cl (pRaw a (st i) sh i)
/-- the stand of the reference -/
def pr_st (m : zz_Mem) : Nat → Int32 := fun k => m.1 1 (66 + k)
theorem pr_count {a : Nat → Int32} (hv : pv_D a) {m : zz_Mem} (hm : pv_ag (m.1 1) a) (hs : pr_sched m a) {i : Nat} (hi : i < pN a) (sh : Int32) : ∃ m', f_X12_countOf (nI i) sh m = some (nI (pCnt a (pr_st m) sh i), m') ∧ pq_fr [5, 6] m m' := by
  have h8 := (pN_b hv).1
  have hvl := hv.2.2.2.2.2.2.1
  have l66 : (66 : Int32) = nI 66 := rfl
  have l24 : (24 : Int32) = nI 24 := rfl
  have hfu : zz_fuel = 5000 := rfl
  have hin := pv_inD hv hi
  have eb := pE_b hin
  have sb := pS_b hin
  have e6 : m.1 1 6 = a 6 := hm 6 (by decide)
  have fin : ∀ (x : Int32) (m1 : zz_Mem), f_X12_countOf_92 x m1 = some (nI (pg_cl x), m1) := by
    intro x m1
    unfold f_X12_countOf_92
    rw [pg_kept, pq_bndS]
  unfold f_X12_countOf
  rw [l66, nI_add, pq_ixE (by omega) (by decide), nI_clamp (by omega), pq_letI, e6]
  have er : m.1 1 (66 + i) = pr_st m i := rfl
  rw [er]
  unfold pCnt pRaw
  by_cases h6 : a 6 = 1
  · obtain ⟨c1, c2, c3, c4, c5⟩ := hvl.2 h6
    rw [if_pos h6, if_pos h6, pq_ixE (by omega) (by decide), pq_letM, pq_ixE (by omega) (by decide), pq_ixE (by omega) (by decide), nI_clamp (by omega), pq_letM, l24, nI_add, pq_ixE (by omega) (by decide), nI_clamp (by omega), pq_letM, pq_letM, pq_letM]
    have r8 : (zz_setI m 6 0 (pr_st m i)).1 8 i = nI (pE a i) := by rw [pz_In _ _ _ (by decide)]; exact (hs.1 i hi).2.1
    have r7 : (zz_setI m 6 0 (pr_st m i)).1 7 i = nI (pS a i) := by rw [pz_In _ _ _ (by decide)]; exact (hs.1 i hi).1
    have rs : nI (pE a i) - nI (pS a i) = iI ((pE a i : Int) - (pS a i : Int)) := by rw [iI_nI, iI_nI, iI_sub]
    rw [r8, r7, rs]
    have r24 : (zz_setI (zz_setI m 6 0 (pr_st m i)) 6 1 (iI ((pE a i : Int) - (pS a i : Int)))).1 1 (24 + i) = a (24 + i) := by
      rw [pz_In _ _ _ (by decide), pz_In _ _ _ (by decide)]; exact hm _ (by omega)
    rw [r24]
    generalize hm2 : zz_setI (zz_setI (zz_setI (zz_setI (zz_setI m 6 0 (pr_st m i)) 6 1 (iI ((pE a i : Int) - (pS a i : Int)))) 6 2 (a (24 + i))) 6 3 sh) 6 4 (nI i) = m2
    have f2 : pq_fr [5, 6] m m2 := by
      rw [← hm2]
      exact pq_frI (pq_frI (pq_frI (pq_frI (pq_frI (pq_fr0 m) _ _ (by simp)) _ _ (by simp)) _ _ (by simp)) _ _ (by simp)) _ _ (by simp)
    have r1 : m2.1 1 = m.1 1 := (f2 1 (by simp)).1
    unfold f_X12_reckons
    obtain ⟨m', e1, e2⟩ := pe_ref (lo := 0) (hi := 5) (w := pw a (pr_st m i) sh i) (b := false) (law := 0) (fr := pv_n a (8 + 0)) (N := pv_n a (10 + 0)) (by decide) (by decide) c4 (pd_codes a 0) 0 [] zz_fuel m2 (by rw [pd_codesL]; have := c2.2; omega) (by rw [pd_codesL]; omega) (by rw [r1, hm _ (by decide)]; exact c1.1) (by rw [r1, hm _ (by decide)]; exact c2.1) (fun j hj => by rw [r1, pd_codesG]; rw [pd_codesL] at hj; exact hm _ (by omega)) (fun j a1 a2 => by
      rw [← hm2]
      have : j = 0 ∨ j = 1 ∨ j = 2 ∨ j = 3 ∨ j = 4 := by omega
      rcases this with rfl | rfl | rfl | rfl | rfl <;> simp [pz_Is, upd, pw]) (by simp) c5
    have e0 : nI ([] : List Bool).length = 0 := rfl
    rw [e0, nI_0] at e1
    rw [e1, pq_bnd2, fin]
    refine ⟨m', ?_, pq_frT f2 (pq_frW e2 (by simp))⟩
    have ev := pd_ev0 (w := pw a (pr_st m i) sh i) c5 (m2.1 5)
    show some (nI (pg_cl (pe_ev (pw a (pr_st m i) sh i) (pd_codes a 0) 0 (m2.1 5))), m') = _
    rw [ev]
  · rw [if_neg h6, if_neg h6, fin]
    exact ⟨m, rfl, pq_fr0 m⟩
theorem pr_counts {a : Nat → Int32} (hv : pv_D a) (sh : Int32) : ∀ (r i fuel : Nat) (m : zz_Mem), i + r = pN a → r < fuel → pv_ag (m.1 1) a → pr_sched m a → (∀ j, j < i → m.1 12 j = nI (pCnt a (pr_st m) sh j)) → ∃ m', f_X12_laysCounts_2 fuel sh (nI i) m = some m' ∧ pq_fr [5, 6, 12] m m' ∧ ∀ j, j < pN a → m'.1 12 j = nI (pCnt a (pr_st m) sh j) := by
  have h8 := (pN_b hv).1
  intro r
  induction r with
  | zero =>
    intro i fuel m h1 h2 hm hs hj
    obtain ⟨n, rfl⟩ : ∃ n, fuel = n + 1 := ⟨fuel - 1, by omega⟩
    have e : i = pN a := by omega
    subst e
    have h5 : m.1 1 4 = nI (pN a) := (hm 4 (by omega)).trans (pN_b hv).2
    rw [f_X12_laysCounts_2, h5, if_pos (Int32.le_refl _)]
    exact ⟨m, rfl, pq_fr0 m, hj⟩
  | succ r ih =>
    intro i fuel m h1 h2 hm hs hj
    obtain ⟨n, rfl⟩ : ∃ n, fuel = n + 1 := ⟨fuel - 1, by omega⟩
    have h5 : m.1 1 4 = nI (pN a) := (hm 4 (by omega)).trans (pN_b hv).2
    obtain ⟨m1, e1, f1⟩ := pr_count hv hm hs (show i < pN a by omega) sh
    rw [f_X12_laysCounts_2, h5, if_neg (nI_ge (by omega) (by omega)), e1, pq_bnd2, pq_ixE (by omega) (by decide), nI_clamp (by omega), pq_letM, pq_letI, nI_1]
    have fr : pq_fr [5, 6, 12] m (zz_setI m1 12 i (nI (pCnt a (pr_st m) sh i))) := pq_frI (pq_frW f1 (by simp <;> omega)) _ _ (by simp)
    have est : pr_st (zz_setI m1 12 i (nI (pCnt a (pr_st m) sh i))) = pr_st m := funext (fun k => congrFun (fr 1 (by simp)).1 (66 + k))
    have r12 : m1.1 12 = m.1 12 := (f1 12 (by simp)).1
    obtain ⟨m', g1, g2, g3⟩ := ih (i + 1) n _ (by omega) (by omega) (by rw [(fr 1 (by simp)).1]; exact hm) (pr_schedF hs fr (fun j a1 a2 => by simp <;> omega)) (fun j hj' => by
      rw [est]
      by_cases c : j = i
      · rw [c, qx_isE]
      · rw [qx_isN c, r12]; exact hj j (by omega))
    rw [est] at g3
    exact ⟨m', g1, pq_frT fr g2, g3⟩
theorem pr_laysCounts {a : Nat → Int32} (hv : pv_D a) (sh : Int32) {m : zz_Mem} (hm : pv_ag (m.1 1) a) (hs : pr_sched m a) : ∃ m', f_X12_laysCounts sh m = some m' ∧ pq_fr [5, 6, 12] m m' ∧ pr_cnt m' a (pCnt a (pr_st m) sh) := by
  have h8 := (pN_b hv).1
  have hfu : zz_fuel = 5000 := rfl
  obtain ⟨m', e, f, g⟩ := pr_counts hv sh (pN a) 0 zz_fuel m (by omega) (by omega) hm hs (fun j hj => absurd hj (Nat.not_lt_zero _))
  rw [nI_0] at e
  exact ⟨m', e, f, fun i hi => ⟨g i hi, pg_clB _⟩⟩
/-- a curve of the reference laid by counts; what else it has stays -/
def pr_laid (m m' : zz_Mem) (a : Nat → Int32) (c : Nat → Nat) (F : Nat → Int) : Prop := pq_fr [0, 5, 6, 12, 13, 14, 15, 16] m m' ∧ m'.2.1 0 = m.2.1 0 ∧ (∀ j, j ≠ 28 → m'.1 0 j = m.1 0 j) ∧ pr_cnt m' a c ∧ pr_solved m' a c (pL a) F ∧ ∀ x, x < pN a → pr_made m' (pL a) (pInp a) x
theorem pr_byCounts {a : Nat → Int32} (hv : pv_D a) {c : Nat → Nat} {m m1 : zz_Mem} (hm : pv_ag (m.1 1) a) (hs : pr_sched m a) (f1 : pq_fr [5, 6, 12] m m1) (hc : pr_cnt m1 a c) : ∃ m' F, f_X12_laysPillars m1 = some m' ∧ pr_laid m m' a c F := by
  obtain ⟨m', F, e2, f2, z2, y2, s2, q2⟩ := pr_laysPillars (c := c) hv (m := m1) (by rw [(f1 1 (by simp)).1]; exact hm) (pr_schedF hs f1 (fun j a1 a2 => by simp <;> omega)) hc
  refine ⟨m', F, e2, pq_frT (pq_frW f1 (by simp <;> omega)) (pq_frW f2 (by simp <;> omega)), ?_, fun j hj => by rw [y2 j hj, (f1 0 (by simp)).1], ?_, s2, q2⟩
  · rw [z2]; exact (f1 0 (by simp)).2.1
  · unfold pr_cnt; rw [(f2 12 (by simp)).1]; exact hc
theorem pr_curve {a : Nat → Int32} (hv : pv_D a) {m : zz_Mem} (hm : pv_ag (m.1 1) a) (hs : pr_sched m a) : ∃ m' F, f_X12_laysCurve m = some m' ∧ pr_laid m m' a (pCnt a (pr_st m) (pr_st m 8)) F := by
  obtain ⟨m1, e1, f1, c1⟩ := pr_laysCounts hv (pr_st m 8) hm hs
  obtain ⟨m', F, e2, l2⟩ := pr_byCounts hv hm hs f1 c1
  refine ⟨m', F, ?_, l2⟩
  unfold f_X12_laysCurve
  rw [show m.1 1 74 = pr_st m 8 from rfl, e1, pq_bndS, e2, pq_bndS]
theorem pr_byShift {a : Nat → Int32} (hv : pv_D a) {m : zz_Mem} (hm : pv_ag (m.1 1) a) (hs : pr_sched m a) (sh : Int32) : ∃ m1 m' F, f_X12_laysCounts sh m = some m1 ∧ f_X12_laysPillars m1 = some m' ∧ pr_laid m m' a (pCnt a (pr_st m) sh) F := by
  obtain ⟨m1, e1, f1, c1⟩ := pr_laysCounts hv sh hm hs
  obtain ⟨m', F, e2, l2⟩ := pr_byCounts hv hm hs f1 c1
  exact ⟨m1, m', F, e1, e2, l2⟩
/-- the counts with one of them so much more -/
def pCb (c : Nat → Nat) (i : Nat) (n : Int32) : Nat → Nat := va_up c i (pg_cl (nI (c i) + n))
theorem pr_with {a : Nat → Int32} (hv : pv_D a) {m : zz_Mem} (hm : pv_ag (m.1 1) a) (hs : pr_sched m a) {i : Nat} (hi : i < pN a) (n : Int32) : ∃ m' F, f_X12_laysWith (nI i) n m = some m' ∧ pr_laid m m' a (pCb (pCnt a (pr_st m) (pr_st m 8)) i n) F := by
  have h8 := (pN_b hv).1
  obtain ⟨m1, e1, f1, c1⟩ := pr_laysCounts hv (pr_st m 8) hm hs
  unfold f_X12_laysWith
  rw [show m.1 1 74 = pr_st m 8 from rfl, e1, pq_bndS, pq_ixE (by omega) (by decide), nI_clamp (by omega), (c1 i hi).1, pg_kept, pq_bndS, pq_ixE (by omega) (by decide), pq_letM]
  obtain ⟨m', F, e2, l2⟩ := pr_byCounts hv (c := pCb (pCnt a (pr_st m) (pr_st m 8)) i n) hm hs (m1 := zz_setI m1 12 i (nI (pg_cl (nI (pCnt a (pr_st m) (pr_st m 8) i) + n)))) (pq_frI f1 _ _ (by simp)) (fun j hj => by
    unfold pCb
    by_cases c : j = i
    · rw [c, qx_isE, va_up, if_pos rfl]; exact ⟨rfl, pg_clB _⟩
    · rw [qx_isN c, va_up, if_neg c]; exact c1 j hj)
  rw [e2, pq_bndS]
  exact ⟨m', F, rfl, l2⟩
/-- the class's counts -/
theorem pc_rate {a : Nat → Int32} (hv : pv_D a) {m : zz_Mem} (hp : pc_plan m 2 a) (hs : pc_sched m a) {i : Nat} (hi : i < pN a) (o : Nat) (rate sh : Int32) : ∃ m', f_X1_rateByRule o (nI i) rate sh m = some (pRaw a rate sh i, m') ∧ pq_fr [11, 12] m m' := by
  have h8 := (pN_b hv).1
  have hvl := hv.2.2.2.2.2.2.1
  have hfu : zz_fuel = 5000 := rfl
  obtain ⟨p0, p1, p2, p3, p5, p10, ph, pi, pf, pr, po⟩ := hp
  unfold f_X1_rateByRule pRaw
  rcases hvl.1 with h6 | h6
  · have e1 := pr.1 h6
    have e2 : f_X3_hasRates m = some 0 := by
      unfold f_X3_hasRates
      rw [if_pos (by rw [show m.1 9 5 = m.1 9 4 from e1]; exact Int32.le_refl _)]
    have h6' : a 6 = 0 := h6
    rw [e2, pq_bndS, if_pos rfl, if_neg (by rw [h6']; decide)]
    exact ⟨m, rfl, pq_fr0 m⟩
  · obtain ⟨c1, c2, c3, c4, c5⟩ := hvl.2 h6
    obtain ⟨q1, q2, q3⟩ := pr.2 h6
    have c3' : 0 < pv_n a 10 := c3
    have c4' : pv_n a 8 + pv_n a 10 ≤ 900 := c4
    have q1' : m.1 9 4 = nI (pv_n a 8) := q1
    have q2' : m.1 9 5 = nI (pv_n a 8 + pv_n a 10) := q2
    have e2 : f_X3_hasRates m = some 1 := by
      unfold f_X3_hasRates
      rw [q1', q2', if_neg (nI_ge (by omega) (by omega))]
    have h6' : a 6 = 1 := h6
    rw [e2, pq_bndS, if_neg (by decide), pq_letM, if_pos h6']
    have ed : f_X8_daysOf (zz_setI m 11 0 rate) (nI i) = some (iI ((pE a i : Int) - (pS a i : Int))) := by
      unfold f_X8_daysOf
      rw [pq_ixE (by omega) (by decide), pq_ixE (by omega) (by decide), nI_clamp (by omega), pz_In _ _ _ (by decide), pz_In _ _ _ (by decide), (hs.1 i hi).1, (hs.1 i hi).2.1, iI_nI, iI_nI, iI_sub]
    rw [ed, pq_bndS, pq_letM, pq_ixE (by omega) (by decide), nI_clamp (by omega), pq_letM, pq_letM, pq_letM]
    have r4 : (zz_setI (zz_setI m 11 0 rate) 11 1 (iI ((pE a i : Int) - (pS a i : Int)))).1 4 i = a (24 + i) := by
      rw [pz_In _ _ _ (by decide), pz_In _ _ _ (by decide)]; exact (pi i hi).1
    rw [r4]
    generalize hm2 : zz_setI (zz_setI (zz_setI (zz_setI (zz_setI m 11 0 rate) 11 1 (iI ((pE a i : Int) - (pS a i : Int)))) 11 2 (a (24 + i))) 11 3 sh) 11 4 (nI i) = m2
    have f2 : pq_fr [11, 12] m m2 := by
      rw [← hm2]
      exact pq_frI (pq_frI (pq_frI (pq_frI (pq_frI (pq_fr0 m) _ _ (by simp)) _ _ (by simp)) _ _ (by simp)) _ _ (by simp)) _ _ (by simp)
    have r9 : m2.1 9 = m.1 9 := (f2 9 (by simp)).1
    have r10 : m2.1 10 = m.1 10 := (f2 10 (by simp)).1
    unfold f_X3_value
    rw [r9, q1', q2']
    obtain ⟨m', e1, e2⟩ := pe_cls (sh := 0) (hi := 5) (w := pw a rate sh i) (b := false) (N := pv_n a 8 + pv_n a 10) (by decide) (by decide) c4 (pd_codes a 0) (pv_n a 8) [] zz_fuel m2 (by rw [pd_codesL]; have := c2.2; omega) (by rw [pd_codesL]) (fun j hj => by rw [r10, pd_codesG]; exact q3 j (by rw [pd_codesL] at hj; exact hj)) (fun j a1 a2 => by
      rw [← hm2]
      have : j = 0 ∨ j = 1 ∨ j = 2 ∨ j = 3 ∨ j = 4 := by omega
      rcases this with rfl | rfl | rfl | rfl | rfl <;> simp [pz_Is, upd, pw]) (by simp) c5 trivial
    have e0 : nI ([] : List Bool).length = 0 := rfl
    rw [e0] at e1
    rw [e1, pq_bnd2]
    refine ⟨m', ?_, pq_frT f2 (pq_frW e2 (by simp))⟩
    have ev := pd_ev0 (w := pw a rate sh i) c5 (m2.1 12)
    show some (pe_ev (pw a rate sh i) (pd_codes a 0) 0 (m2.1 12), m') = _
    rw [ev]
theorem pc_counts {a : Nat → Int32} (hv : pv_D a) {o o0 : Nat} (ho : o = 83 ∨ o = 88) (ho0 : o0 = 13 ∨ o0 = 69) (sh : Int32) (st : Nat → Int32) : ∀ (r i fuel : Nat) (m : zz_Mem), i + r = pN a → r < fuel → pc_plan m 2 a → pc_sched m a → (∀ j, j < pN a → m.1 (o0 + 1) j = st j) → (∀ j, j < i → m.1 (o + 1) j = nI (pCnt a st sh j)) → ∃ m', f_X1_countRates_2 o o0 fuel sh (nI i) m = some m' ∧ pq_fr [11, 12, o + 1] m m' ∧ ∀ j, j < pN a → m'.1 (o + 1) j = nI (pCnt a st sh j) := by
  have h8 := (pN_b hv).1
  have l8 : (8 : Int32) = nI 8 := rfl
  intro r
  induction r with
  | zero =>
    intro i fuel m h1 h2 hp hs hst hj
    obtain ⟨n, rfl⟩ : ∃ n, fuel = n + 1 := ⟨fuel - 1, by omega⟩
    have e : i = pN a := by omega
    subst e
    have h5 : m.1 2 5 = nI (pN a) := hp.2.2.2.2.1.trans (pN_b hv).2
    rw [f_X1_countRates_2, h5, if_pos (Int32.le_refl _)]
    exact ⟨m, rfl, pq_fr0 m, hj⟩
  | succ r ih =>
    intro i fuel m h1 h2 hp hs hst hj
    obtain ⟨n, rfl⟩ : ∃ n, fuel = n + 1 := ⟨fuel - 1, by omega⟩
    have h5 : m.1 2 5 = nI (pN a) := hp.2.2.2.2.1.trans (pN_b hv).2
    obtain ⟨m1, e1, f1⟩ := pc_rate hv hp hs (show i < pN a by omega) o (st i) sh
    rw [f_X1_countRates_2, h5, if_neg (nI_ge (by omega) (by omega)), l8, if_neg (nI_ge (by omega) (by omega)), pq_ixE (by omega) (by decide), nI_clamp (by omega), hst i (by omega), e1, pq_bnd2, pg_bounds, pq_bndS, pq_ixE (by omega) (by decide), pq_letM, pq_letI, nI_1]
    have fr : pq_fr [11, 12, o + 1] m (zz_setI m1 (o + 1) i (nI (pg_cl (pRaw a (st i) sh i)))) := pq_frI (pq_frW f1 (by simp <;> omega)) _ _ (by simp)
    have r12 : m1.1 (o + 1) = m.1 (o + 1) := (f1 (o + 1) (by simp <;> omega)).1
    obtain ⟨m', g1, g2, g3⟩ := ih (i + 1) n _ (by omega) (by omega) (pc_planF hp fr (fun j hj => by simp <;> omega)) (pc_schedF hs fr (fun j a1 a2 => by simp <;> omega)) (by rw [(fr (o0 + 1) (by simp <;> omega)).1]; exact hst) (fun j hj' => by
      by_cases c : j = i
      · rw [c, qx_isE]; rfl
      · rw [qx_isN c, r12]; exact hj j (by omega))
    exact ⟨m', g1, pq_frT fr g2, g3⟩
theorem pc_countRates {a : Nat → Int32} (hv : pv_D a) {o o0 : Nat} (ho : o = 83 ∨ o = 88) (ho0 : o0 = 13 ∨ o0 = 69) (sh : Int32) {st : Nat → Int32} {m : zz_Mem} (hp : pc_plan m 2 a) (hs : pc_sched m a) (hst : ∀ j, j < pN a → m.1 (o0 + 1) j = st j) : ∃ m', f_X1_countRates o o0 sh m = some m' ∧ pq_fr [11, 12, o + 1] m m' ∧ ∀ j, j < pN a → m'.1 (o + 1) j = nI (pCnt a st sh j) := by
  have h8 := (pN_b hv).1
  have hfu : zz_fuel = 5000 := rfl
  obtain ⟨m', e, f, g⟩ := pc_counts hv ho ho0 sh st (pN a) 0 zz_fuel m (by omega) (by omega) hp hs hst (fun j hj => absurd hj (Nat.not_lt_zero _))
  rw [nI_0] at e
  exact ⟨m', e, f, g⟩
