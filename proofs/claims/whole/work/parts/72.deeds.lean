/-! ===== 72: deeds ===== -/
theorem pc_hasIn {a : Nat → Int32} (hv : pv_D a) {m : zz_Mem} (hp : pc_plan m 2 a) (x : Int32) : (∃ i, i < pN a ∧ i < 8 ∧ x = nI i ∧ f_X6_hasInput m x = some 1 ∧ ∀ ν, pv_ag (ν.1 1) a → f_X12_isInput ν x.toInt64 = some 1) ∨ (f_X6_hasInput m x = some 0 ∧ ∀ ν, pv_ag (ν.1 1) a → f_X12_isInput ν x.toInt64 = some 0) := by
  obtain ⟨n1, n2⟩ := pN_b hv
  have h5 : m.1 2 5 = nI (pN a) := hp.2.2.2.2.1.trans n2
  have l0 : (0 : Int64).toInt = 0 := rfl
  have l1 : (1 : Int32) = nI 1 := rfl
  have l8 : (8 : Int32) = nI 8 := rfl
  have e9 : (lI ((pN a : Int) - ((1 : Nat) : Int))).toInt = (pN a : Int) - ((1 : Nat) : Int) := lI_t (by omega) (by omega)
  have er : ∀ ν : zz_Mem, pv_ag (ν.1 1) a → f_X12_isInput ν x.toInt64 = zz_bndR (f_X12_within x.toInt64 0 (lI ((pN a : Int) - ((1 : Nat) : Int)))) fun r1 => zz_bo r1 (some r1) := fun ν hν => by
    unfold f_X12_isInput
    rw [(hν 4 (by omega)).trans n2, l1, qx_sl (by omega) (by decide)]
  unfold f_X6_hasInput
  rw [h5, l8]
  rcases pi_within x.toInt64 0 (lI ((pN a : Int) - ((1 : Nat) : Int))) with ⟨h1, h2, h3⟩ | ⟨h1, h3⟩
  · rw [Int32.toInt_toInt64, l0] at h1
    rw [Int32.toInt_toInt64, e9] at h2
    left
    obtain ⟨j, j1, j2, j3⟩ := pi_to h1
    refine ⟨j, by omega, by omega, j1, ?_, fun ν hν => by rw [er ν hν, h3, pq_bndS, pq_boE (Or.inr rfl)]⟩
    rw [if_neg (by rw [pi_neg]; omega), if_neg (by rw [pi_nle' (by omega)]; omega), if_neg (by rw [pi_nle' (by omega)]; omega)]
  · rw [Int32.toInt_toInt64, e9, l0] at h1
    right
    refine ⟨?_, fun ν hν => by rw [er ν hν, h3, pq_bndS, pq_boE (Or.inl rfl)]⟩
    by_cases c : x.toInt < 0
    · rw [if_pos (pi_neg.mpr c)]
    · rw [if_neg (by rw [pi_neg]; exact c), if_pos (by rw [pi_nle' (by omega)]; omega)]
theorem pc_hasFl {a : Nat → Int32} (hv : pv_D a) {m : zz_Mem} (hp : pc_plan m 2 a) (x : Int32) : (∃ i, i < pF a ∧ i < 10 ∧ x = nI i ∧ f_X6_hasFlow m x = some 1 ∧ ∀ ν, pv_ag (ν.1 1) a → f_X12_isFlow ν x.toInt64 = some 1) ∨ (f_X6_hasFlow m x = some 0 ∧ ∀ ν, pv_ag (ν.1 1) a → f_X12_isFlow ν x.toInt64 = some 0) := by
  obtain ⟨n1, n2⟩ := pF_b hv
  have h5 : m.1 2 10 = nI (pF a) := hp.2.2.2.2.2.1.trans n2
  have l0 : (0 : Int64).toInt = 0 := rfl
  have l1 : (1 : Int32) = nI 1 := rfl
  have l8 : (10 : Int32) = nI 10 := rfl
  have e9 : (lI ((pF a : Int) - ((1 : Nat) : Int))).toInt = (pF a : Int) - ((1 : Nat) : Int) := lI_t (by omega) (by omega)
  have er : ∀ ν : zz_Mem, pv_ag (ν.1 1) a → f_X12_isFlow ν x.toInt64 = zz_bndR (f_X12_within x.toInt64 0 (lI ((pF a : Int) - ((1 : Nat) : Int)))) fun r1 => zz_bo r1 (some r1) := fun ν hν => by
    unfold f_X12_isFlow
    rw [(hν 5 (by omega)).trans n2, l1, qx_sl (by omega) (by decide)]
  unfold f_X6_hasFlow
  rw [h5, l8]
  rcases pi_within x.toInt64 0 (lI ((pF a : Int) - ((1 : Nat) : Int))) with ⟨h1, h2, h3⟩ | ⟨h1, h3⟩
  · rw [Int32.toInt_toInt64, l0] at h1
    rw [Int32.toInt_toInt64, e9] at h2
    left
    obtain ⟨j, j1, j2, j3⟩ := pi_to h1
    refine ⟨j, by omega, by omega, j1, ?_, fun ν hν => by rw [er ν hν, h3, pq_bndS, pq_boE (Or.inr rfl)]⟩
    rw [if_neg (by rw [pi_neg]; omega), if_neg (by rw [pi_nle' (by omega)]; omega), if_neg (by rw [pi_nle' (by omega)]; omega)]
  · rw [Int32.toInt_toInt64, e9, l0] at h1
    right
    refine ⟨?_, fun ν hν => by rw [er ν hν, h3, pq_bndS, pq_boE (Or.inl rfl)]⟩
    by_cases c : x.toInt < 0
    · rw [if_pos (pi_neg.mpr c)]
    · rw [if_neg (by rw [pi_neg]; exact c), if_pos (by rw [pi_nle' (by omega)]; omega)]
/-- both at work upon a stand: cells o, o + 1, o + 2 of the class, row 1 of the reference -/
def pJ (a : Nat → Int32) (o : Nat) (m ν : zz_Mem) (st : Nat → Int32) : Prop := pc_plan m 2 a ∧ pc_stand m o (pN a) (pF a) st ∧ pv_ag (ν.1 1) a ∧ pr_st ν = st ∧ pv_S a st
theorem pj_bump {a : Nat → Int32} (hv : pv_D a) {o : Nat} {m ν : zz_Mem} {st : Nat → Int32} (h : pJ a o m ν st) (p1 p2 : Int32) : (∃ i, i < pN a ∧ i < 8 ∧ p1 = nI i ∧ 0 ≤ (st i + p2).toInt ∧ (st i + p2).toInt ≤ 999 ∧ f_X6_doBump o p1 p2 m = some (0, zz_setI m (o + 1) i (st i + p2)) ∧ f_X12_whyBump ν p1.toInt64 p2.toInt64 = some 0) ∨ (∃ w, ¬ w = 0 ∧ f_X6_doBump o p1 p2 m = some (w, m) ∧ f_X12_whyBump ν p1.toInt64 p2.toInt64 = some w) := by
  obtain ⟨h1, h2, h3, h4, h5⟩ := h
  have a1 : (-99 : Int64).toInt = -99 := rfl
  have a2 : (99 : Int64).toInt = 99 := rfl
  have a3 : (-99 : Int32).toInt = -99 := rfl
  have a4 : (99 : Int32).toInt = 99 := rfl
  have a5 : (999 : Int64).toInt = 999 := rfl
  have a6 : (999 : Int32).toInt = 999 := rfl
  have a0 : (0 : Int64).toInt = 0 := rfl
  have l66 : (66 : Int32) = nI 66 := rfl
  unfold f_X6_doBump f_X12_whyBump
  rcases pc_hasIn hv h1 p1 with ⟨i, i1, i2, i3, i4, i5⟩ | ⟨i4, i5⟩
  · rw [i4, i5 ν h3, pq_bndS, pq_bndS, if_neg (show ¬ (1 : Int32) = 0 by decide), if_neg (show ¬ (1 : Int32) = 0 by decide)]
    have hst := h5.1 i i1
    rcases pi_within p2.toInt64 (-99) 99 with ⟨g1, g2, g3⟩ | ⟨g1, g3⟩
    · rw [Int32.toInt_toInt64, a1] at g1
      rw [Int32.toInt_toInt64, a2] at g2
      have e66 : ν.1 1 (66 + i) = st i := by rw [← h4]; rfl
      have esum : (st i + p2).toInt = (st i).toInt + p2.toInt := by
        rw [Int32.toInt_add]; exact Int.bmod_eq_of_le (by omega) (by omega)
      have esumJ : ((st i).toInt64 + p2.toInt64).toInt = (st i).toInt + p2.toInt := by
        rw [Int64.toInt_add, Int32.toInt_toInt64, Int32.toInt_toInt64]; exact Int.bmod_eq_of_le (by omega) (by omega)
      rw [g3, pq_bndS, if_neg (show ¬ (1 : Int32) = 0 by decide), if_neg (show ¬ p2 < -99 by rw [Int32.lt_iff_toInt_lt, a3]; omega), if_pos (show p2 ≤ 99 by rw [Int32.le_iff_toInt_le, a4]; omega)]
      have ei : p1.toInt64.toInt32 = nI i := by rw [i3]; simp
      rw [ei, l66, nI_add, pq_ixE (by omega) (by decide), nI_clamp (by omega), e66, i3, pq_ixE (by omega) (by decide), nI_clamp (by omega), h2.2.1 i i1, pq_letI]
      rcases pi_within ((st i).toInt64 + p2.toInt64) 0 999 with ⟨q1, q2, q3⟩ | ⟨q1, q3⟩
      · rw [esumJ, a0] at q1
        rw [esumJ, a5] at q2
        left
        refine ⟨i, i1, i2, rfl, by omega, by omega, ?_, by rw [q3, pq_bndS, if_neg (show ¬ (1 : Int32) = 0 by decide)]⟩
        rw [if_neg (by rw [pi_neg]; omega), if_pos (show st i + p2 ≤ 999 by rw [Int32.le_iff_toInt_le, a6]; omega), pq_ixE (by omega) (by decide), pq_letM]
      · rw [esumJ, a0, a5] at q1
        right
        refine ⟨2, by decide, ?_, by rw [q3, pq_bndS, if_pos rfl]⟩
        by_cases c : st i + p2 < 0
        · rw [if_pos c]
        · rw [if_neg c]
          rw [pi_neg] at c
          rw [if_neg (show ¬ st i + p2 ≤ 999 by rw [Int32.le_iff_toInt_le, a6]; omega)]
    · rw [Int32.toInt_toInt64, a1, a2] at g1
      right
      refine ⟨1, by decide, ?_, by rw [g3, pq_bndS, if_pos rfl]⟩
      by_cases c : p2 < -99
      · rw [if_pos c]
      · rw [if_neg c]
        rw [Int32.lt_iff_toInt_lt, a3] at c
        rw [if_neg (show ¬ p2 ≤ 99 by rw [Int32.le_iff_toInt_le, a4]; omega)]
  · right
    refine ⟨1, by decide, ?_, ?_⟩
    · rw [i4, pq_bndS, if_pos rfl]
    · rw [i5 ν h3, pq_bndS, if_pos rfl]
theorem pj_amount {a : Nat → Int32} (hv : pv_D a) {o : Nat} {m ν : zz_Mem} {st : Nat → Int32} (h : pJ a o m ν st) (p1 p2 : Int32) : (∃ k, k < pF a ∧ k < 10 ∧ p1 = nI k ∧ (-999 ≤ p2.toInt ∧ p2.toInt ≤ 999) ∧ f_X6_doAmount o p1 p2 m = some (0, zz_setI m (o + 2) k p2) ∧ f_X12_whyAmount ν p1.toInt64 p2.toInt64 = some 0) ∨ (f_X6_doAmount o p1 p2 m = some (1, m) ∧ f_X12_whyAmount ν p1.toInt64 p2.toInt64 = some 1) := by
  obtain ⟨h1, h2, h3, h4, h5⟩ := h
  have a1 : (-999 : Int64).toInt = -999 := rfl
  have a2 : (999 : Int64).toInt = 999 := rfl
  have a3 : (-999 : Int32).toInt = -999 := rfl
  have a4 : (999 : Int32).toInt = 999 := rfl
  unfold f_X6_doAmount f_X12_whyAmount
  rcases pc_hasFl hv h1 p1 with ⟨i, i1, i2, i3, i4, i5⟩ | ⟨i4, i5⟩
  · rw [i4, i5 ν h3, pq_bndS, pq_bndS, if_neg (show ¬ (1 : Int32) = 0 by decide), if_neg (show ¬ (1 : Int32) = 0 by decide)]
    rcases pi_within p2.toInt64 (-999) 999 with ⟨g1, g2, g3⟩ | ⟨g1, g3⟩
    · rw [Int32.toInt_toInt64, a1] at g1
      rw [Int32.toInt_toInt64, a2] at g2
      left
      rw [g3, pq_bndS, if_neg (show ¬ (1 : Int32) = 0 by decide), if_neg (show ¬ p2 < -999 by rw [Int32.lt_iff_toInt_lt, a3]; omega), if_pos (show p2 ≤ 999 by rw [Int32.le_iff_toInt_le, a4]; omega), i3, pq_ixE (by omega) (by decide), nI_clamp (by omega), pq_letM]
      exact ⟨i, i1, i2, rfl, ⟨g1, g2⟩, rfl, rfl⟩
    · rw [Int32.toInt_toInt64, a1, a2] at g1
      right
      rw [g3, pq_bndS, if_pos rfl]
      by_cases c : p2 < -999
      · rw [if_pos c]; exact ⟨rfl, rfl⟩
      · rw [if_neg c]
        rw [Int32.lt_iff_toInt_lt, a3] at c
        rw [if_neg (show ¬ p2 ≤ 999 by rw [Int32.le_iff_toInt_le, a4]; omega)]
        exact ⟨rfl, rfl⟩
  · right
    rw [i4, i5 ν h3, pq_bndS, pq_bndS, if_pos rfl, if_pos rfl]
    exact ⟨rfl, rfl⟩
theorem pr_stU (ν : zz_Mem) (i : Nat) (v : Int32) : pr_st (zz_setI ν 1 (66 + i) v) = va_up (pr_st ν) i v := by
  funext k
  unfold pr_st
  by_cases c : k = i
  · rw [c, qx_isE, va_up, if_pos rfl]
  · rw [qx_isN (by omega), va_up, if_neg c]
theorem pr_agU {ν : zz_Mem} {a : Nat → Int32} (h : pv_ag (ν.1 1) a) {j : Nat} (hj : 66 ≤ j) (hj2 : j < 277) (v : Int32) : pv_ag ((zz_setI ν 1 j v).1 1) a := fun k hk => by rw [qx_isN (by omega)]; exact h k hk
/-- what changes by a deed -/
def pJf (o : Nat) (m m' ν ν' : zz_Mem) : Prop := pq_fr [o, o + 1, o + 2] m m' ∧ pq_fr [1] ν ν' ∧ ∀ j, (j < 66 ∨ 84 < j) → ν'.1 1 j = ν.1 1 j
theorem pJf0 (o : Nat) (m ν : zz_Mem) : pJf o m m ν ν := ⟨pq_fr0 m, pq_fr0 ν, fun _ _ => rfl⟩
theorem pJfT {o : Nat} {m m1 m2 ν ν1 ν2 : zz_Mem} (h : pJf o m m1 ν ν1) (g : pJf o m1 m2 ν1 ν2) : pJf o m m2 ν ν2 := ⟨pq_frT h.1 g.1, pq_frT h.2.1 g.2.1, fun j hj => (g.2.2 j hj).trans (h.2.2 j hj)⟩
theorem pj_setR {a : Nat → Int32} {o : Nat} (ho : o = 13 ∨ o = 69) {m ν : zz_Mem} {st : Nat → Int32} (h : pJ a o m ν st) {i : Nat} (hi : i < 8) {v : Int32} (hv1 : 0 ≤ v.toInt) (hv2 : v.toInt ≤ 999) : pJ a o (zz_setI m (o + 1) i v) (zz_setI ν 1 (66 + i) v) (va_up st i v) ∧ pJf o m (zz_setI m (o + 1) i v) ν (zz_setI ν 1 (66 + i) v) := by
  obtain ⟨h1, h2, h3, h4, h5⟩ := h
  have f : pq_fr [o, o + 1, o + 2] m (zz_setI m (o + 1) i v) := pq_frI (pq_fr0 m) _ _ (by simp)
  refine ⟨⟨pc_planF h1 f (fun j hj => by simp <;> omega), ⟨?_, fun j hj => ?_, fun k hk => ?_⟩, pr_agU h3 (by omega) (by omega) v, by rw [pr_stU, h4], fun j hj => ?_, fun k hk => ?_⟩, f, pq_frI (pq_fr0 ν) _ _ (by simp), fun j hj => qx_isN (by omega)⟩
  · rw [pz_In _ _ _ (by omega), va_up, if_neg (by omega)]; exact h2.1
  · by_cases c : j = i
    · rw [c, qx_isE, va_up, if_pos rfl]
    · rw [qx_isN c, va_up, if_neg c]; exact h2.2.1 j hj
  · rw [pz_In _ _ _ (by omega), va_up, if_neg (by omega)]; exact h2.2.2 k hk
  · by_cases c : j = i
    · rw [va_up, if_pos c]; exact ⟨hv1, hv2⟩
    · rw [va_up, if_neg c]; exact h5.1 j hj
  · rw [va_up, if_neg (by omega)]; exact h5.2 k hk
theorem pj_setS {a : Nat → Int32} (hvD : pv_D a) {o : Nat} (ho : o = 13 ∨ o = 69) {m ν : zz_Mem} {st : Nat → Int32} (h : pJ a o m ν st) (v : Int32) : pJ a o (zz_setI m o 2 v) (zz_setI ν 1 74 v) (va_up st 8 v) ∧ pJf o m (zz_setI m o 2 v) ν (zz_setI ν 1 74 v) := by
  obtain ⟨h1, h2, h3, h4, h5⟩ := h
  have h8 := (pN_b hvD).1
  have f : pq_fr [o, o + 1, o + 2] m (zz_setI m o 2 v) := pq_frI (pq_fr0 m) _ _ (by simp)
  refine ⟨⟨pc_planF h1 f (fun j hj => by simp <;> omega), ⟨?_, fun j hj => ?_, fun k hk => ?_⟩, pr_agU h3 (by omega) (by omega) v, by rw [show zz_setI ν 1 74 v = zz_setI ν 1 (66 + 8) v from rfl, pr_stU, h4], fun j hj => ?_, fun k hk => ?_⟩, f, pq_frI (pq_fr0 ν) _ _ (by simp), fun j hj => qx_isN (by omega)⟩
  · rw [qx_isE, va_up, if_pos rfl]
  · rw [pz_In _ _ _ (by omega), va_up, if_neg (by omega)]; exact h2.2.1 j hj
  · rw [pz_In _ _ _ (by omega), va_up, if_neg (by omega)]; exact h2.2.2 k hk
  · rw [va_up, if_neg (by omega)]; exact h5.1 j hj
  · rw [va_up, if_neg (by omega)]; exact h5.2 k hk
theorem pj_setA {a : Nat → Int32} (hvD : pv_D a) {o : Nat} (ho : o = 13 ∨ o = 69) {m ν : zz_Mem} {st : Nat → Int32} (h : pJ a o m ν st) {k : Nat} (hk : k < 10) {v : Int32} (hvv : -999 ≤ v.toInt ∧ v.toInt ≤ 999) : pJ a o (zz_setI m (o + 2) k v) (zz_setI ν 1 (75 + k) v) (va_up st (9 + k) v) ∧ pJf o m (zz_setI m (o + 2) k v) ν (zz_setI ν 1 (75 + k) v) := by
  obtain ⟨h1, h2, h3, h4, h5⟩ := h
  have h8 := (pN_b hvD).1
  have f : pq_fr [o, o + 1, o + 2] m (zz_setI m (o + 2) k v) := pq_frI (pq_fr0 m) _ _ (by simp)
  refine ⟨⟨pc_planF h1 f (fun j hj => by simp <;> omega), ⟨?_, fun j hj => ?_, fun j hj => ?_⟩, pr_agU h3 (by omega) (by omega) v, by rw [show 75 + k = 66 + (9 + k) by omega, pr_stU, h4], fun j hj => ?_, fun j hj => ?_⟩, f, pq_frI (pq_fr0 ν) _ _ (by simp), fun j hj => qx_isN (by omega)⟩
  · rw [pz_In _ _ _ (by omega), va_up, if_neg (by omega)]; exact h2.1
  · rw [pz_In _ _ _ (by omega), va_up, if_neg (by omega)]; exact h2.2.1 j hj
  · by_cases c : j = k
    · rw [c, qx_isE, va_up, if_pos rfl]
    · rw [qx_isN c, va_up, if_neg (by omega)]; exact h2.2.2 j hj
  · rw [va_up, if_neg (by omega)]; exact h5.1 j hj
  · by_cases c : j = k
    · rw [c, va_up, if_pos rfl]; exact hvv
    · rw [va_up, if_neg (by omega)]; exact h5.2 j hj
/-- a told deed -/
theorem pj_deed {a : Nat → Int32} (hv : pv_D a) {o : Nat} (ho : o = 13 ∨ o = 69) {m ν : zz_Mem} {st : Nat → Int32} (h : pJ a o m ν st) (v : Int64) : (∃ m' ν' st', f_X6_doDeed o v m = some (0, m') ∧ f_X12_whyNot ν v = some 0 ∧ f_X12_does v.toInt32 ν = some ν' ∧ pJ a o m' ν' st' ∧ pJf o m m' ν ν') ∨ (∃ w, ¬ w = 0 ∧ f_X6_doDeed o v m = some (w, m) ∧ f_X12_whyNot ν v = some w) := by
  have bv1 := Int64.le_toInt v
  have bv2 := Int64.toInt_lt v
  have ev : v = lI v.toInt := (lI_of v).symm
  generalize hz : v.toInt = z at *
  have e32 : v.toInt32 = iI z := by rw [ev, lI_i]
  have c10 : (10 : Int64).toInt = 10 := rfl
  have c19 : (19 : Int64).toInt = 19 := rfl
  have c1000 : (1000 : Int64).toInt = 1000 := rfl
  have c8999 : (8999 : Int64).toInt = 8999 := rfl
  have c10000 : (10000 : Int64).toInt = 10000 := rfl
  have c29999 : (29999 : Int64).toInt = 29999 := rfl
  unfold f_X6_doDeed f_X12_whyNot
  rcases pi_within v 10 19 with ⟨g1, g2, g3⟩ | ⟨g1, g3⟩
  · rw [c10, hz] at g1
    rw [c19, hz] at g2
    left
    rw [if_neg (show ¬ v < 10 by rw [Int64.lt_iff_toInt_lt, c10]; omega), if_neg (show ¬ (19 : Int64) < v by rw [Int64.lt_iff_toInt_lt, c19]; omega), g3, pq_bndS, if_neg (show ¬ (1 : Int32) = 0 by decide)]
    obtain ⟨k, rfl⟩ : ∃ k : Nat, z = (k : Int) := ⟨z.toNat, by omega⟩
    have l10 : (10 : Int32) = nI 10 := rfl
    have l20 : (20 : Int32) = nI 20 := rfl
    have l1 : (1 : Int32) = nI 1 := rfl
    rw [e32, ← iI_nI, l10, pk_sub (by omega)]
    unfold f_X6_doShift f_X12_does
    rw [l10, if_neg (nI_pos (by omega)), if_pos (nI_lt (by omega) (by omega)), pq_letM, pq_bnd2, l20, if_neg (nI_ge (by omega) (by omega)), pk_sub (by omega), pq_letM]
    obtain ⟨t1, t2⟩ := pj_setS hv ho h (nI (k - 10))
    exact ⟨_, _, _, rfl, rfl, rfl, t1, t2⟩
  · rw [c10, c19, hz] at g1
    have hcl : (if v < 10 then f_X6_doDeed_27 o v m else if (19 : Int64) < v then f_X6_doDeed_27 o v m else zz_bnd (f_X6_doShift o (v.toInt32 - 10) m) fun r1 m2 => some (r1, m2)) = f_X6_doDeed_27 o v m := by
      by_cases c : v < 10
      · rw [if_pos c]
      · rw [if_neg c, if_pos (show (19 : Int64) < v by rw [Int64.lt_iff_toInt_lt, c19]; rw [Int64.lt_iff_toInt_lt, c10] at c; omega)]
    rw [hcl, g3, pq_bndS, if_pos rfl]
    unfold f_X6_doDeed_27
    rcases pi_within v 1000 8999 with ⟨q1, q2, q3⟩ | ⟨q1, q3⟩
    · rw [c1000, hz] at q1
      rw [c8999, hz] at q2
      obtain ⟨k, rfl⟩ : ∃ k : Nat, z = (k : Int) := ⟨z.toNat, by omega⟩
      have l1000 : (1000 : Int32) = nI 1000 := rfl
      have l1 : (1 : Int32) = nI 1 := rfl
      have lJ1000 : (1000 : Int64) = lI 1000 := rfl
      have lJ1 : (1 : Int64) = lI 1 := rfl
      have lJ99 : (99 : Int64) = lI 99 := rfl
      have l99 : (99 : Int32) = nI 99 := rfl
      rw [if_neg (show ¬ v < 1000 by rw [Int64.lt_iff_toInt_lt, c1000]; omega), if_neg (show ¬ (8999 : Int64) < v by rw [Int64.lt_iff_toInt_lt, c8999]; omega), q3, pq_bndS, if_neg (show ¬ (1 : Int32) = 0 by decide)]
      have A1 : v.toInt32 / 1000 - 1 = nI (k / 1000 - 1) := by
        rw [e32, ← iI_nI, l1000, pk_div (by omega) (by decide) (by decide), l1, pk_sub (by omega)]
      have A2 : v.toInt32 - v.toInt32 / 1000 * 1000 - 99 = iI ((k % 1000 : Nat) - 99 : Int) := by
        rw [e32, ← iI_nI, l1000, pk_rem (by omega) (by decide) (by decide), l99, iI_nI, iI_nI, iI_sub]; rfl
      have B1 : v / 1000 - 1 = (nI (k / 1000 - 1)).toInt64 := by
        rw [ev, lJ1000, qx_dJ (by omega) (by omega) (by decide) (by decide), lJ1, lI_sub, qx_nl (by omega)]
        exact congrArg lI (by omega)
      have B2 : v - v / 1000 * 1000 - 99 = (iI ((k % 1000 : Nat) - 99 : Int)).toInt64 := by
        rw [ev, lJ1000, qx_dJ (by omega) (by omega) (by decide) (by decide), lI_mul, lI_sub, lJ99, lI_sub, iI_l (by omega) (by omega)]
        exact congrArg lI (by omega)
      rw [A1, A2, B1, B2]
      rcases pj_bump hv h (nI (k / 1000 - 1)) (iI ((k % 1000 : Nat) - 99 : Int)) with ⟨i, i1, i2, i3, i4, i5, i6, i7⟩ | ⟨w, w0, w1, w2⟩
      · left
        rw [i6, i7, pq_bnd2, pq_bndS]
        rw [nI_eq (by omega) (by omega)] at i3
        obtain ⟨t1, t2⟩ := pj_setR ho h i2 i4 i5
        refine ⟨_, _, _, rfl, rfl, ?_, t1, t2⟩
        have l20 : (20 : Int32) = nI 20 := rfl
        have l10000 : (10000 : Int32) = nI 10000 := rfl
        have l66 : (66 : Int32) = nI 66 := rfl
        have e66 : ν.1 1 (66 + i) = st i := by rw [← h.2.2.2.1]; rfl
        unfold f_X12_does
        rw [A2, show v.toInt32 / 1000 = nI (k / 1000) by rw [e32, ← iI_nI, l1000, pk_div (by omega) (by decide) (by decide)], e32, ← iI_nI, l20, if_pos (nI_le (by omega) (by omega)), l10000, if_neg (nI_ge (by omega) (by omega)), l66, nI_add, l1, pk_sub (by omega), show 66 + k / 1000 - 1 = 66 + i by omega, pq_ixE (by omega) (by decide), pq_ixE (by omega) (by decide), nI_clamp (by omega), e66, pq_letM]
      · right
        rw [w1, w2, pq_bnd2, pq_bndS]
        exact ⟨w, w0, rfl, rfl⟩
    · rw [c1000, c8999, hz] at q1
      have hcl2 : (if v < 1000 then f_X6_doDeed_66 o v m else if (8999 : Int64) < v then f_X6_doDeed_66 o v m else zz_bnd (f_X6_doBump o (v.toInt32 / 1000 - 1) (v.toInt32 - v.toInt32 / 1000 * 1000 - 99) m) fun r1 m2 => some (r1, m2)) = f_X6_doDeed_66 o v m := by
        by_cases c : v < 1000
        · rw [if_pos c]
        · rw [if_neg c, if_pos (show (8999 : Int64) < v by rw [Int64.lt_iff_toInt_lt, c8999]; rw [Int64.lt_iff_toInt_lt, c1000] at c; omega)]
      rw [hcl2, q3, pq_bndS, if_pos rfl]
      unfold f_X6_doDeed_66
      rcases pi_within v 10000 29999 with ⟨r1, r2, r3⟩ | ⟨r1, r3⟩
      · rw [c10000, hz] at r1
        rw [c29999, hz] at r2
        obtain ⟨k, rfl⟩ : ∃ k : Nat, z = (k : Int) := ⟨z.toNat, by omega⟩
        have l10000 : (10000 : Int32) = nI 10000 := rfl
        have l2000 : (2000 : Int32) = nI 2000 := rfl
        have l999 : (999 : Int32) = nI 999 := rfl
        have lJ10000 : (10000 : Int64) = lI 10000 := rfl
        have lJ2000 : (2000 : Int64) = lI 2000 := rfl
        have lJ999 : (999 : Int64) = lI 999 := rfl
        rw [if_neg (show ¬ v < 10000 by rw [Int64.lt_iff_toInt_lt, c10000]; omega), if_neg (show ¬ (29999 : Int64) < v by rw [Int64.lt_iff_toInt_lt, c29999]; omega), r3, pq_bndS, if_neg (show ¬ (1 : Int32) = 0 by decide), pq_letI]
        have A0 : v.toInt32 - 10000 = nI (k - 10000) := by rw [e32, ← iI_nI, l10000, pk_sub (by omega)]
        have A1 : nI (k - 10000) / 2000 = nI ((k - 10000) / 2000) := by rw [l2000, pk_div (by omega) (by decide) (by decide)]
        have A2 : nI (k - 10000) - nI (k - 10000) / 2000 * 2000 - 999 = iI (((k - 10000) % 2000 : Nat) - 999 : Int) := by
          rw [l2000, pk_rem (by omega) (by decide) (by decide), l999, iI_nI, iI_nI, iI_sub]; rfl
        have B0 : v - 10000 = lI ((k : Int) - 10000) := by rw [ev, lJ10000, lI_sub]
        have B1 : lI ((k : Int) - 10000) / 2000 = (nI ((k - 10000) / 2000)).toInt64 := by
          rw [lJ2000, qx_dJ (by omega) (by omega) (by decide) (by decide), qx_nl (by omega)]
          exact congrArg lI (by omega)
        have B2 : lI ((k : Int) - 10000) - lI ((k : Int) - 10000) / 2000 * 2000 - 999 = (iI (((k - 10000) % 2000 : Nat) - 999 : Int)).toInt64 := by
          rw [lJ2000, qx_dJ (by omega) (by omega) (by decide) (by decide), lI_mul, lI_sub, lJ999, lI_sub, iI_l (by omega) (by omega)]
          exact congrArg lI (by omega)
        rw [A0, A2, A1, B0, B2, B1]
        rcases pj_amount hv h (nI ((k - 10000) / 2000)) (iI (((k - 10000) % 2000 : Nat) - 999 : Int)) with ⟨i, i1, i2, i3, i9, i6, i7⟩ | ⟨w1, w2⟩
        · left
          rw [i6, i7, pq_bnd2, pq_bndS]
          rw [nI_eq (by omega) (by omega)] at i3
          obtain ⟨t1, t2⟩ := pj_setA hv ho h i2 i9
          refine ⟨_, _, _, rfl, rfl, ?_, t1, t2⟩
          have l20 : (20 : Int32) = nI 20 := rfl
          have l75 : (75 : Int32) = nI 75 := rfl
          unfold f_X12_does
          rw [A0, A2, A1, e32, ← iI_nI, l20, if_pos (nI_le (by omega) (by omega)), l10000, if_pos (nI_le (by omega) (by omega)), l75, nI_add, i3, pq_ixE (by omega) (by decide), nI_clamp (by omega), pq_letM]
        · right
          rw [w1, w2, pq_bnd2, pq_bndS]
          exact ⟨1, by decide, rfl, rfl⟩
      · rw [c10000, c29999, hz] at r1
        right
        refine ⟨1, by decide, ?_, by rw [r3, pq_bndS, if_pos rfl]⟩
        by_cases c : v < 10000
        · rw [if_pos c]
        · rw [if_neg c, if_pos (show (29999 : Int64) < v by rw [Int64.lt_iff_toInt_lt, c29999]; rw [Int64.lt_iff_toInt_lt, c10000] at c; omega)]
