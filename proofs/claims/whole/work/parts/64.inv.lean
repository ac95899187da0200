/-! ===== 64: what class and reference have in common ===== -/
def pF (a : Nat → Int32) : Nat := pv_n a 5
theorem pF_b {a : Nat → Int32} (hv : pv_D a) : pF a ≤ 10 ∧ a 5 = nI (pF a) := ⟨hv.2.2.2.2.2.1.2, hv.2.2.2.2.2.1.1⟩
def pv_S (a st : Nat → Int32) : Prop := (∀ i, i < pN a → 0 ≤ (st i).toInt ∧ (st i).toInt ≤ 999) ∧ ∀ k, k < pF a → -999 ≤ (st (9 + k)).toInt ∧ (st (9 + k)).toInt ≤ 999
def pc_cv (m : zz_Mem) (o : Nat) (a : Nat → Int32) (c : Nat → Nat) (F : Nat → Int) : Prop := pc_cnt m o a c ∧ pf_FS a c F (pL a) ∧ ∀ j, j ≤ pL a → m.1 (o + 2) j = iI (F j)
def pc_now (m : zz_Mem) (a st : Nat → Int32) : Prop := ∃ F, pc_cv m 83 a (pCnt a st (st 8)) F
def pI_c (m : zz_Mem) (a st : Nat → Int32) : Prop := pc_plan m 2 a ∧ pc_stand m 13 (pN a) (pF a) st ∧ pc_known m a ∧ pc_sched m a ∧ pc_fb m 83 ∧ pc_fb m 88 ∧ (m.1 0 18 = 1 ∨ m.1 0 18 = 0 ∧ pc_now m a st)
def pI_r (m : zz_Mem) (a : Nat → Int32) : Prop := pv_ag (m.1 1) a ∧ pr_sched m a
def pX_past (μ ν : zz_Mem) (a : Nat → Int32) : Prop := ∃ s nx, s ≤ 10 ∧ nx < 10 ∧ ν.1 1 85 = nI s ∧ μ.1 34 2 = nI s ∧ μ.1 34 1 = nI nx ∧ ∀ j, j < s → pc_stand μ (36 + 3 * ((nx + 10 - s + j) % 10)) (pN a) (pF a) (fun k => ν.1 1 (86 + 19 * j + k)) ∧ pv_S a (fun k => ν.1 1 (86 + 19 * j + k))
def pX_tray (μ ν : zz_Mem) (t : Nat) : Prop := (μ.1 (99 + 2 * t) 2 = -1 ∧ ν.1 23 t = -1) ∨ ∃ sz so, sz ≤ 40 ∧ so ≤ 3 ∧ μ.1 (99 + 2 * t) 2 = nI sz ∧ ν.1 24 t = nI sz ∧ μ.1 (99 + 2 * t) 1 = nI so ∧ ν.1 23 t = nI so ∧ ∀ j, j < sz → μ.2.1 (99 + 2 * t + 1) j = ν.2.1 25 (40 * t + j)
def pr_img (ν : zz_Mem) (i : Nat) : Nat → Int32 := fun k => ν.1 1 (1177 * (i + 1) + k)
def pX_img (n : Nat) (μ ν : zz_Mem) (i : Nat) : Prop := (μ.2.2 32 i = none ∧ ν.1 2 i = 0) ∨ ∃ o, μ.2.2 32 i = some o ∧ ν.1 2 i = 1 ∧ ((o = 107 ∧ 121 ≤ n) ∨ (o = 121 ∧ 135 ≤ n)) ∧ pc_plan μ o (pr_img ν i) ∧ pc_stand μ (o + 11) (pN (pr_img ν i)) (pF (pr_img ν i)) (fun k => pr_img ν i (66 + k)) ∧ pv_D (pr_img ν i) ∧ pv_S (pr_img ν i) (fun k => pr_img ν i (66 + k))
def pX_tape (μ ν : zz_Mem) : Prop := ∃ len, len ≤ 900 ∧ μ.1 0 1 = nI len ∧ ν.1 0 5 = nI len ∧ ∀ j, j < len → ∃ b, b < 256 ∧ ν.1 3 j = nI b ∧ μ.1 1 j &&& 255 = nI b
def pX_refs (n : Nat) (μ : zz_Mem) : Prop := (n = 107 ∨ n = 121 ∨ n = 135) ∧ (∀ o, μ.2.2 30 1 = some o → o < 107) ∧ (μ.2.2 32 0 = none ∨ μ.2.2 32 0 ≠ μ.2.2 32 1) ∧ (∀ j, 2 ≤ j → μ.2.2 32 j = none) ∧ (n = 107 → μ.2.2 32 0 = none ∧ μ.2.2 32 1 = none) ∧ (n = 121 → (μ.2.2 32 0 = none ∧ ¬ μ.2.2 32 1 = none) ∨ (¬ μ.2.2 32 0 = none ∧ μ.2.2 32 1 = none)) ∧ (n = 135 → ¬ μ.2.2 32 0 = none ∧ ¬ μ.2.2 32 1 = none)
def pI_x (n : Nat) (μ ν : zz_Mem) (a : Nat → Int32) : Prop := pX_past μ ν a ∧ (∀ t, t < 4 → pX_tray μ ν t) ∧ (∀ i, i < 2 → pX_img n μ ν i) ∧ pX_tape μ ν ∧ (μ.1 0 2 = ν.1 0 13 ∧ μ.1 0 3 = ν.1 0 14) ∧ pX_refs n μ
def pI (n : Nat) (μ ν : zz_Mem) : Prop := ∃ a, pv_D a ∧ pv_S a (pr_st ν) ∧ pI_c μ a (pr_st ν) ∧ pI_r ν a ∧ pI_x n μ ν a
/-- what else stays in the class, in the reference -/
def pK_c (μ μ' : zz_Mem) : Prop := (∀ k, (k = 1 ∨ (34 ≤ k ∧ k ≤ 65) ∨ 99 ≤ k) → μ'.1 k = μ.1 k ∧ μ'.2.1 k = μ.2.1 k) ∧ μ'.2.2 30 = μ.2.2 30 ∧ μ'.2.2 32 = μ.2.2 32 ∧ μ'.1 0 1 = μ.1 0 1 ∧ μ'.1 0 2 = μ.1 0 2 ∧ μ'.1 0 3 = μ.1 0 3
def pK_r (ν ν' : zz_Mem) : Prop := (∀ k, (k = 1 ∨ k = 2 ∨ k = 3 ∨ k = 23 ∨ k = 24) → ν'.1 k = ν.1 k) ∧ ν'.2.1 25 = ν.2.1 25 ∧ ν'.1 0 5 = ν.1 0 5 ∧ ν'.1 0 13 = ν.1 0 13 ∧ ν'.1 0 14 = ν.1 0 14
theorem pK_c0 (μ : zz_Mem) : pK_c μ μ := ⟨fun _ _ => ⟨rfl, rfl⟩, rfl, rfl, rfl, rfl, rfl⟩
theorem pK_r0 (ν : zz_Mem) : pK_r ν ν := ⟨fun _ _ => rfl, rfl, rfl, rfl, rfl⟩
theorem pK_cT {μ μ1 μ2 : zz_Mem} (h : pK_c μ μ1) (g : pK_c μ1 μ2) : pK_c μ μ2 := ⟨fun k hk => ⟨(g.1 k hk).1.trans (h.1 k hk).1, (g.1 k hk).2.trans (h.1 k hk).2⟩, g.2.1.trans h.2.1, g.2.2.1.trans h.2.2.1, g.2.2.2.1.trans h.2.2.2.1, g.2.2.2.2.1.trans h.2.2.2.2.1, g.2.2.2.2.2.trans h.2.2.2.2.2⟩
theorem pK_rT {μ μ1 μ2 : zz_Mem} (h : pK_r μ μ1) (g : pK_r μ1 μ2) : pK_r μ μ2 := ⟨fun k hk => (g.1 k hk).trans (h.1 k hk), g.2.1.trans h.2.1, g.2.2.1.trans h.2.2.1, g.2.2.2.1.trans h.2.2.2.1, g.2.2.2.2.trans h.2.2.2.2⟩
theorem pK_cF {L : List Nat} {μ μ' : zz_Mem} (f : pq_fr L μ μ') (hL : ∀ k, k ∈ L → k ≠ 0 ∧ k ≠ 1 ∧ k ≠ 30 ∧ k ≠ 32 ∧ (k < 34 ∨ 65 < k) ∧ k < 99) : pK_c μ μ' := by
  have h : ∀ k, (k = 1 ∨ (34 ≤ k ∧ k ≤ 65) ∨ 99 ≤ k ∨ k = 30 ∨ k = 32 ∨ k = 0) → k ∉ L := fun k hk z => by have := hL k z; omega
  refine ⟨fun k hk => ⟨(f k (h k (by omega))).1, (f k (h k (by omega))).2.1⟩, (f 30 (h 30 (by omega))).2.2, (f 32 (h 32 (by omega))).2.2, ?_, ?_, ?_⟩
  all_goals rw [(f 0 (h 0 (by omega))).1]
theorem pK_c18 (μ : zz_Mem) {i : Nat} (hi : i = 18 ∨ i = 19) (v : Int32) : pK_c μ (zz_setI μ 0 i v) := by
  refine ⟨fun k hk => ⟨pz_In _ _ _ (by omega), rfl⟩, rfl, rfl, qx_isN (by omega), qx_isN (by omega), qx_isN (by omega)⟩
theorem pK_rF {L : List Nat} {ν ν' : zz_Mem} (f : pq_fr L ν ν') (hL : ∀ k, k ∈ L → k ≠ 1 ∧ k ≠ 2 ∧ k ≠ 3 ∧ k ≠ 23 ∧ k ≠ 24 ∧ k ≠ 25) (h5 : ν'.1 0 5 = ν.1 0 5) (h13 : ν'.1 0 13 = ν.1 0 13) (h14 : ν'.1 0 14 = ν.1 0 14) : pK_r ν ν' := by
  have h : ∀ k, (k = 1 ∨ k = 2 ∨ k = 3 ∨ k = 23 ∨ k = 24 ∨ k = 25) → k ∉ L := fun k hk z => by have := hL k z; omega
  exact ⟨fun k hk => (f k (h k (by omega))).1, (f 25 (h 25 (by omega))).2.1, h5, h13, h14⟩
theorem pK_rI (ν : zz_Mem) {k i : Nat} (v : Int32) (hk : k ≠ 1 ∧ k ≠ 2 ∧ k ≠ 3 ∧ k ≠ 23 ∧ k ≠ 24) (hi : k = 0 → i ≠ 5 ∧ i ≠ 13 ∧ i ≠ 14) : pK_r ν (zz_setI ν k i v) := by
  refine ⟨fun j hj => pz_In _ _ _ (by omega), rfl, ?_, ?_, ?_⟩
  all_goals
    by_cases c : k = 0
    · subst c; rw [qx_isN (by have := hi rfl; omega)]
    · rw [pz_In _ _ _ (fun z => c z.symm)]
theorem pI_xK {n : Nat} {μ μ' ν ν' : zz_Mem} {a : Nat → Int32} (h : pI_x n μ ν a) (hc : pK_c μ μ') (hr : pK_r ν ν') : pI_x n μ' ν' a := by
  obtain ⟨x1, x2, x3, x4, x5, x6⟩ := h
  obtain ⟨c1, c30, c32, c01, c02, c03⟩ := hc
  obtain ⟨r1, r25, r05, r13, r14⟩ := hr
  have e1 := r1 1 (by omega)
  refine ⟨?_, fun t ht => ?_, fun i hi => ?_, ?_, ?_, ?_⟩
  · obtain ⟨s, nx, s1, s2, s3, s4, s5, s6⟩ := x1
    refine ⟨s, nx, s1, s2, by rw [e1]; exact s3, by rw [(c1 34 (by omega)).1]; exact s4, by rw [(c1 34 (by omega)).1]; exact s5, fun j hj => ?_⟩
    have hm : (nx + 10 - s + j) % 10 < 10 := Nat.mod_lt _ (by decide)
    rw [e1]
    unfold pc_stand
    rw [(c1 (36 + 3 * ((nx + 10 - s + j) % 10)) (by omega)).1, (c1 (36 + 3 * ((nx + 10 - s + j) % 10) + 1) (by omega)).1, (c1 (36 + 3 * ((nx + 10 - s + j) % 10) + 2) (by omega)).1]
    exact s6 j hj
  · have := x2 t ht
    unfold pX_tray at this ⊢
    rw [(c1 (99 + 2 * t) (by omega)).1, (c1 (99 + 2 * t + 1) (by omega)).2, r1 23 (by omega), r1 24 (by omega), r25]
    exact this
  · have := x3 i hi
    unfold pX_img pr_img at this ⊢
    rw [c32, r1 2 (by omega), e1]
    rcases this with h | ⟨o, o1, o2, o3, o4, o5, o6⟩
    · exact Or.inl h
    · refine Or.inr ⟨o, o1, o2, o3, ?_, ?_, o6⟩
      · unfold pc_plan pc_law at o4 ⊢
        rw [(c1 o (by omega)).1, (c1 (o + 1) (by omega)).1, (c1 (o + 2) (by omega)).1, (c1 (o + 3) (by omega)).1, (c1 (o + 4) (by omega)).1, (c1 (o + 5) (by omega)).1, (c1 (o + 6) (by omega)).1, (c1 (o + 7) (by omega)).1, (c1 (o + 8) (by omega)).1]
        exact o4
      · unfold pc_stand at o5 ⊢
        rw [(c1 (o + 11) (by omega)).1, (c1 (o + 11 + 1) (by omega)).1, (c1 (o + 11 + 2) (by omega)).1]
        exact o5
  · obtain ⟨len, l1, l2, l3, l4⟩ := x4
    refine ⟨len, l1, by rw [c01]; exact l2, by rw [r05]; exact l3, ?_⟩
    rw [(c1 1 (by omega)).1, r1 3 (by omega)]
    exact l4
  · rw [c02, c03, r13, r14]; exact x5
  · unfold pX_refs at x6 ⊢; rw [c30, c32]; exact x6
theorem pI_mk {n : Nat} {μ μ' ν ν' : zz_Mem} {a : Nat → Int32} (hv : pv_D a) (hS : pv_S a (pr_st ν)) (hx : pI_x n μ ν a) (hc : pI_c μ' a (pr_st ν)) (hkc : pK_c μ μ') (hr : pI_r ν' a) (hkr : pK_r ν ν') : pI n μ' ν' := by
  have e : pr_st ν' = pr_st ν := by unfold pr_st; rw [hkr.1 1 (by omega)]
  exact ⟨a, hv, by rw [e]; exact hS, by rw [e]; exact hc, hr, pI_xK hx hkc hkr⟩
/-- rules for what a call asks -/
theorem pi_within (p lo hi : Int64) : (lo.toInt ≤ p.toInt ∧ p.toInt ≤ hi.toInt ∧ f_X12_within p lo hi = some 1) ∨ ((p.toInt < lo.toInt ∨ hi.toInt < p.toInt) ∧ f_X12_within p lo hi = some 0) := by
  unfold f_X12_within
  by_cases c1 : p < lo
  · rw [if_pos c1]; rw [Int64.lt_iff_toInt_lt] at c1; exact Or.inr ⟨Or.inl c1, rfl⟩
  · rw [if_neg c1]
    rw [Int64.lt_iff_toInt_lt] at c1
    by_cases c2 : hi < p
    · rw [if_pos c2]; rw [Int64.lt_iff_toInt_lt] at c2; exact Or.inr ⟨Or.inr c2, rfl⟩
    · rw [if_neg c2]; rw [Int64.lt_iff_toInt_lt] at c2; exact Or.inl ⟨by omega, by omega, rfl⟩
theorem pi_neg {x : Int32} : x < 0 ↔ x.toInt < 0 := Int32.lt_iff_toInt_lt
theorem pi_nle {x : Int32} {n : Nat} (h : n < 2147483648) : x ≤ nI n ↔ x.toInt ≤ n := by rw [Int32.le_iff_toInt_le, nI_toInt h]
theorem pi_nle' {x : Int32} {n : Nat} (h : n < 2147483648) : nI n ≤ x ↔ (n : Int) ≤ x.toInt := by rw [Int32.le_iff_toInt_le, nI_toInt h]
theorem pi_nlt {x : Int32} {n : Nat} (h : n < 2147483648) : x < nI n ↔ x.toInt < n := by rw [Int32.lt_iff_toInt_lt, nI_toInt h]
theorem pi_nlt' {x : Int32} {n : Nat} (h : n < 2147483648) : nI n < x ↔ (n : Int) < x.toInt := by rw [Int32.lt_iff_toInt_lt, nI_toInt h]
theorem pi_to {x : Int32} (h : 0 ≤ x.toInt) : ∃ j : Nat, x = nI j ∧ (j : Int) = x.toInt ∧ j < 2147483648 := by
  have b := Int32.toInt_lt x
  refine ⟨x.toInt.toNat, ?_, by omega, by omega⟩
  apply Int32.toInt_inj.mp
  rw [nI_toInt (by omega)]
  omega
theorem pi_isDay (x : Int32) {N : Nat} (hN : N < 2000000000) : (∃ j, j ≤ N ∧ x = nI j ∧ ¬ x < 0 ∧ x ≤ nI N ∧ f_X12_isDay x (nI N) = some 1) ∨ ((x < 0 ∨ (¬ x < 0 ∧ ¬ x ≤ nI N)) ∧ f_X12_isDay x (nI N) = some 0) := by
  unfold f_X12_isDay
  have l0 : (0 : Int64).toInt = 0 := rfl
  rcases pi_within x.toInt64 0 (nI N).toInt64 with ⟨h1, h2, h3⟩ | ⟨h1, h3⟩
  · rw [Int32.toInt_toInt64, l0] at h1
    rw [Int32.toInt_toInt64, Int32.toInt_toInt64, nI_toInt (by omega)] at h2
    left
    obtain ⟨j, j1, j2, j3⟩ := pi_to h1
    refine ⟨j, by omega, j1, by rw [pi_neg]; omega, by rw [pi_nle (by omega)]; exact h2, ?_⟩
    rw [h3, pq_bndS, pq_boE (Or.inr rfl)]
  · rw [Int32.toInt_toInt64, Int32.toInt_toInt64, nI_toInt (by omega), l0] at h1
    right
    refine ⟨?_, by rw [h3, pq_bndS, pq_boE (Or.inl rfl)]⟩
    rw [pi_neg, pi_nle (by omega)]
    omega
theorem pi_input {μ ν : zz_Mem} {a : Nat → Int32} (hv : pv_D a) (hp : pc_plan μ 2 a) (hr : pI_r ν a) (x : Int32) : (∃ i, i < pN a ∧ i < 8 ∧ x = nI i ∧ f_X6_hasInput μ x = some 1 ∧ f_X12_isInput ν x.toInt64 = some 1) ∨ (f_X6_hasInput μ x = some 0 ∧ f_X12_isInput ν x.toInt64 = some 0) := by
  obtain ⟨n1, n2⟩ := pN_b hv
  have h5 : μ.1 2 5 = nI (pN a) := hp.2.2.2.2.1.trans n2
  have h4 : ν.1 1 4 = nI (pN a) := (hr.1 4 (by omega)).trans n2
  have l0 : (0 : Int64).toInt = 0 := rfl
  have l1 : (1 : Int32) = nI 1 := rfl
  have l8 : (8 : Int32) = nI 8 := rfl
  unfold f_X6_hasInput f_X12_isInput
  rw [h5, h4, l8, l1, qx_sl (by omega) (by decide)]
  have e9 : (lI ((pN a : Int) - ((1 : Nat) : Int))).toInt = (pN a : Int) - ((1 : Nat) : Int) := lI_t (by omega) (by omega)
  rcases pi_within x.toInt64 0 (lI ((pN a : Int) - ((1 : Nat) : Int))) with ⟨h1, h2, h3⟩ | ⟨h1, h3⟩
  · rw [Int32.toInt_toInt64, l0] at h1
    rw [Int32.toInt_toInt64, e9] at h2
    left
    obtain ⟨j, j1, j2, j3⟩ := pi_to h1
    refine ⟨j, by omega, by omega, j1, ?_, by rw [h3, pq_bndS, pq_boE (Or.inr rfl)] <;> rfl⟩
    rw [if_neg (by rw [pi_neg]; omega), if_neg (by rw [pi_nle' (by omega)]; omega), if_neg (by rw [pi_nle' (by omega)]; omega)]
  · rw [Int32.toInt_toInt64, e9, l0] at h1
    right
    refine ⟨?_, by rw [h3, pq_bndS, pq_boE (Or.inl rfl)]⟩
    by_cases c : x.toInt < 0
    · rw [if_pos (pi_neg.mpr c)]
    · rw [if_neg (by rw [pi_neg]; exact c), if_pos (by rw [pi_nle' (by omega)]; omega)]
theorem pi_flow {μ ν : zz_Mem} {a : Nat → Int32} (hv : pv_D a) (hp : pc_plan μ 2 a) (hr : pI_r ν a) (x : Int32) : (∃ i, i < pF a ∧ i < 10 ∧ x = nI i ∧ f_X6_hasFlow μ x = some 1 ∧ f_X12_isFlow ν x.toInt64 = some 1) ∨ (f_X6_hasFlow μ x = some 0 ∧ f_X12_isFlow ν x.toInt64 = some 0) := by
  obtain ⟨n1, n2⟩ := pF_b hv
  have h5 : μ.1 2 10 = nI (pF a) := hp.2.2.2.2.2.1.trans n2
  have h4 : ν.1 1 5 = nI (pF a) := (hr.1 5 (by omega)).trans n2
  have l0 : (0 : Int64).toInt = 0 := rfl
  have l1 : (1 : Int32) = nI 1 := rfl
  have l8 : (10 : Int32) = nI 10 := rfl
  unfold f_X6_hasFlow f_X12_isFlow
  rw [h5, h4, l8, l1, qx_sl (by omega) (by decide)]
  have e9 : (lI ((pF a : Int) - ((1 : Nat) : Int))).toInt = (pF a : Int) - ((1 : Nat) : Int) := lI_t (by omega) (by omega)
  rcases pi_within x.toInt64 0 (lI ((pF a : Int) - ((1 : Nat) : Int))) with ⟨h1, h2, h3⟩ | ⟨h1, h3⟩
  · rw [Int32.toInt_toInt64, l0] at h1
    rw [Int32.toInt_toInt64, e9] at h2
    left
    obtain ⟨j, j1, j2, j3⟩ := pi_to h1
    refine ⟨j, by omega, by omega, j1, ?_, by rw [h3, pq_bndS, pq_boE (Or.inr rfl)] <;> rfl⟩
    rw [if_neg (by rw [pi_neg]; omega), if_neg (by rw [pi_nle' (by omega)]; omega), if_neg (by rw [pi_nle' (by omega)]; omega)]
  · rw [Int32.toInt_toInt64, e9, l0] at h1
    right
    refine ⟨?_, by rw [h3, pq_bndS, pq_boE (Or.inl rfl)]⟩
    by_cases c : x.toInt < 0
    · rw [if_pos (pi_neg.mpr c)]
    · rw [if_neg (by rw [pi_neg]; exact c), if_pos (by rw [pi_nle' (by omega)]; omega)]
theorem pi_pillar {μ ν : zz_Mem} {a : Nat → Int32} (hv : pv_D a) (hs : pc_sched μ a) (hr : ν.1 0 28 = nI (pL a + 1)) (x : Int32) : (∃ i, i ≤ pL a ∧ i < 9 ∧ x = nI i ∧ f_X8_hasPillar μ x = some 1 ∧ f_X12_isPillar ν x = some 1) ∨ (f_X8_hasPillar μ x = some 0 ∧ f_X12_isPillar ν x = some 0) := by
  have n1 := (pD_D hv).2.1
  have h5 := hs.2.1.1
  have l0 : (0 : Int64).toInt = 0 := rfl
  have l1 : (1 : Int32) = nI 1 := rfl
  have l9 : (9 : Int32) = nI 9 := rfl
  unfold f_X8_hasPillar f_X12_isPillar
  rw [h5, hr, l9, nI_pred, qx_nl (by omega)]
  have e9 : (lI (pL a : Int)).toInt = (pL a : Int) := lI_t (by omega) (by omega)
  rcases pi_within x.toInt64 0 (lI (pL a : Int)) with ⟨h1, h2, h3⟩ | ⟨h1, h3⟩
  · rw [Int32.toInt_toInt64, l0] at h1
    rw [Int32.toInt_toInt64, e9] at h2
    left
    obtain ⟨j, j1, j2, j3⟩ := pi_to h1
    refine ⟨j, by omega, by omega, j1, ?_, by rw [h3, pq_bndS, pq_boE (Or.inr rfl)] <;> rfl⟩
    rw [if_neg (by rw [pi_neg]; omega), if_neg (by rw [pi_nle' (by omega)]; omega), if_neg (by rw [pi_nle' (by omega)]; omega)]
  · rw [Int32.toInt_toInt64, e9, l0] at h1
    right
    refine ⟨?_, by rw [h3, pq_bndS, pq_boE (Or.inl rfl)]⟩
    by_cases c : x.toInt < 0
    · rw [if_pos (pi_neg.mpr c)]
    · rw [if_neg (by rw [pi_neg]; exact c), if_pos (by rw [pi_nle' (by omega)]; omega)]
