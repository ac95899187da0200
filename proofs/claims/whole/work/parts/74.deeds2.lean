/-! ===== 74: calls that do ===== -/
theorem pX_pastF {μ μ' ν ν' : zz_Mem} {a : Nat → Int32} (hv : pv_D a) (h : pX_past μ ν a) (hc : ∀ k, 34 ≤ k → k ≤ 65 → μ'.1 k = μ.1 k) (hr : ∀ j, 85 ≤ j → j < 276 → ν'.1 1 j = ν.1 1 j) : pX_past μ' ν' a := by
  obtain ⟨s, nx, s1, s2, s3, s4, s5, s6⟩ := h
  refine ⟨s, nx, s1, s2, by rw [hr 85 (by omega) (by omega)]; exact s3, by rw [hc 34 (by omega) (by omega)]; exact s4, by rw [hc 34 (by omega) (by omega)]; exact s5, fun j hj => ?_⟩
  obtain ⟨o1, o2⟩ := s6 j hj
  have hm : (nx + 10 - s + j) % 10 < 10 := Nat.mod_lt _ (by decide)
  have e : ∀ k, k < 19 → ν'.1 1 (86 + 19 * j + k) = ν.1 1 (86 + 19 * j + k) := fun k hk => hr _ (by omega) (by omega)
  refine ⟨pc_standC ?_ (pN_b hv).1 (pF_b hv).1 e, pv_SC hv o2 e⟩
  unfold pc_stand at o1 ⊢
  rw [hc _ (by omega) (by omega), hc _ (by omega) (by omega), hc _ (by omega) (by omega)]
  exact o1
def pC2 (μ μ' : zz_Mem) : Prop := (∀ k, (k = 1 ∨ 99 ≤ k) → μ'.1 k = μ.1 k ∧ μ'.2.1 k = μ.2.1 k) ∧ μ'.2.2 30 = μ.2.2 30 ∧ μ'.2.2 32 = μ.2.2 32 ∧ μ'.1 0 1 = μ.1 0 1 ∧ μ'.1 0 2 = μ.1 0 2 ∧ μ'.1 0 3 = μ.1 0 3
def pR2 (ν ν' : zz_Mem) : Prop := (∀ k, (k = 2 ∨ k = 3 ∨ k = 23 ∨ k = 24) → ν'.1 k = ν.1 k) ∧ ν'.2.1 25 = ν.2.1 25 ∧ ν'.1 0 5 = ν.1 0 5 ∧ ν'.1 0 13 = ν.1 0 13 ∧ ν'.1 0 14 = ν.1 0 14 ∧ ∀ j, 1177 ≤ j → ν'.1 1 j = ν.1 1 j
theorem pI_x2 {n : Nat} {μ μ' ν ν' : zz_Mem} {a a' : Nat → Int32} (h : pI_x n μ ν a) (hp : pX_past μ' ν' a') (hc : pC2 μ μ') (hr : pR2 ν ν') : pI_x n μ' ν' a' := by
  obtain ⟨x1, x2, x3, x4, x5, x6⟩ := h
  obtain ⟨c1, c30, c32, c01, c02, c03⟩ := hc
  obtain ⟨r1, r25, r05, r13, r14, r1177⟩ := hr
  refine ⟨hp, fun t ht => ?_, fun i hi => ?_, ?_, ?_, ?_⟩
  · have := x2 t ht
    unfold pX_tray at this ⊢
    rw [(c1 (99 + 2 * t) (by omega)).1, (c1 (99 + 2 * t + 1) (by omega)).2, r1 23 (by omega), r1 24 (by omega), r25]
    exact this
  · have := x3 i hi
    have ei : pr_img ν' i = pr_img ν i := by
      funext k
      unfold pr_img
      exact r1177 _ (by rw [Nat.mul_add]; omega)
    unfold pX_img at this ⊢
    rw [c32, r1 2 (by omega), ei]
    rcases this with h | ⟨o, o1, o2, o3, o4, o5, o6⟩
    · exact Or.inl h
    · refine Or.inr ⟨o, o1, o2, o3, ?_, ?_, o6⟩
      · unfold pc_plan pc_law at o4 ⊢
        rw [(c1 o (by omega)).1, (c1 (o + 1) (by omega)).1, (c1 (o + 2) (by omega)).1, (c1 (o + 3) (by omega)).1, (c1 (o + 4) (by omega)).1, (c1 (o + 5) (by omega)).1, (c1 (o + 6) (by omega)).1, (c1 (o + 7) (by omega)).1, (c1 (o + 8) (by omega)).1]
        exact o4
      · unfold pc_stand at o5 ⊢
        rw [(c1 (o + 11) (by omega)).1, (c1 (o + 11 + 1) (by omega)).1, (c1 (o + 11 + 2) (by omega)).1]
        exact o5
  · obtain ⟨len, l1, l2, l3, l4⟩ := x4
    refine ⟨len, l1, by rw [c01]; exact l2, by rw [r05]; exact l3, ?_⟩
    rw [(c1 1 (by omega)).1, r1 3 (by omega)]
    exact l4
  · rw [c02, c03, r13, r14]; exact x5
  · unfold pX_refs at x6 ⊢; rw [c30, c32]; exact x6
/-- what deeds may touch, ahead of noting -/
def pFc (μ m : zz_Mem) : Prop := (∀ k, ¬ (k = 0 ∨ (13 ≤ k ∧ k ≤ 15) ∨ (66 ≤ k ∧ k ≤ 71)) → m.1 k = μ.1 k ∧ m.2.1 k = μ.2.1 k ∧ m.2.2 k = μ.2.2 k) ∧ ∀ j, j ≤ 17 → m.1 0 j = μ.1 0 j
def pFr (ν m : zz_Mem) : Prop := pq_fr [0, 1, 17] ν m ∧ (∀ j, (j < 66 ∨ 84 < j) → m.1 1 j = ν.1 1 j) ∧ m.1 0 5 = ν.1 0 5 ∧ m.1 0 13 = ν.1 0 13 ∧ m.1 0 14 = ν.1 0 14
theorem pFc0 (μ : zz_Mem) : pFc μ μ := ⟨fun _ _ => ⟨rfl, rfl, rfl⟩, fun _ _ => rfl⟩
theorem pFcT {μ m m' : zz_Mem} (h : pFc μ m) (g : pFc m m') : pFc μ m' := ⟨fun k hk => ⟨(g.1 k hk).1.trans (h.1 k hk).1, (g.1 k hk).2.1.trans (h.1 k hk).2.1, (g.1 k hk).2.2.trans (h.1 k hk).2.2⟩, fun j hj => (g.2 j hj).trans (h.2 j hj)⟩
theorem pFcF {L : List Nat} {μ m : zz_Mem} (f : pq_fr L μ m) (hL : ∀ k, k ∈ L → (13 ≤ k ∧ k ≤ 15) ∨ (66 ≤ k ∧ k ≤ 71)) : pFc μ m := ⟨fun k hk => f k (fun z => by have := hL k z; omega), fun j _ => by rw [(f 0 (fun z => by have := hL 0 z; omega)).1]⟩
theorem pFc19 (μ : zz_Mem) {i : Nat} (hi : i = 18 ∨ i = 19) (v : Int32) : pFc μ (zz_setI μ 0 i v) := ⟨fun k hk => ⟨pz_In _ _ _ (by omega), rfl, rfl⟩, fun j hj => qx_isN (by omega)⟩
theorem pFr0 (ν : zz_Mem) : pFr ν ν := ⟨pq_fr0 ν, fun _ _ => rfl, rfl, rfl, rfl⟩
theorem pFrT {μ m m' : zz_Mem} (h : pFr μ m) (g : pFr m m') : pFr μ m' := ⟨pq_frT h.1 g.1, fun j hj => (g.2.1 j hj).trans (h.2.1 j hj), g.2.2.1.trans h.2.2.1, g.2.2.2.1.trans h.2.2.2.1, g.2.2.2.2.trans h.2.2.2.2⟩
theorem pFr17 {ν m : zz_Mem} (f : pq_fr [17] ν m) : pFr ν m := ⟨pq_frW f (by simp), fun j _ => by rw [(f 1 (by simp)).1], by rw [(f 0 (by simp)).1], by rw [(f 0 (by simp)).1], by rw [(f 0 (by simp)).1]⟩
theorem pFrI (ν : zz_Mem) {i : Nat} (hi : i ≠ 5 ∧ i ≠ 13 ∧ i ≠ 14) (v : Int32) : pFr ν (zz_setI ν 0 i v) := ⟨pq_frI (pq_fr0 ν) _ _ (by simp), fun _ _ => rfl, qx_isN (by omega), qx_isN (by omega), qx_isN (by omega)⟩
theorem pFcJ {o : Nat} (ho : o = 13 ∨ o = 69) {m m' ν ν' : zz_Mem} (h : pJf o m m' ν ν') : pFc m m' ∧ pFr ν ν' := ⟨pFcF h.1 (fun k hk => by simp at hk; omega), pq_frW h.2.1 (by simp), h.2.2, by rw [(h.2.1 0 (by simp)).1], by rw [(h.2.1 0 (by simp)).1], by rw [(h.2.1 0 (by simp)).1]⟩
theorem pI_cD {μ m : zz_Mem} {a st st' : Nat → Int32} (h : pI_c μ a st) (f : pFc μ m) (hst : pc_stand m 13 (pN a) (pF a) st') (h18 : m.1 0 18 = 1 ∨ m.1 0 18 = 0 ∧ pc_now m a st') : pI_c m a st' := by
  obtain ⟨h1, h2, h3, h4, h5, h6, h7⟩ := h
  have e : ∀ k, ¬ (k = 0 ∨ (13 ≤ k ∧ k ≤ 15) ∨ (66 ≤ k ∧ k ≤ 71)) → m.1 k = μ.1 k := fun k hk => (f.1 k hk).1
  refine ⟨?_, hst, ?_, ?_, ?_, ?_, h18⟩
  · unfold pc_plan pc_law at h1 ⊢
    rw [e 2 (by omega), e (2 + 1) (by omega), e (2 + 2) (by omega), e (2 + 3) (by omega), e (2 + 4) (by omega), e (2 + 5) (by omega), e (2 + 6) (by omega), e (2 + 7) (by omega), e (2 + 8) (by omega)]
    exact h1
  · unfold pc_known; rw [e 82 (by omega)]; exact h3
  · unfold pc_sched pc_row pc_pils pc_made at h4 ⊢
    rw [e 72 (by omega), e 73 (by omega), e 74 (by omega), e 75 (by omega), e 76 (by omega), e 77 (by omega), e 79 (by omega), e 80 (by omega)]
    exact h4
  · unfold pc_fb at h5 ⊢; rw [e (83 + 2) (by omega)]; exact h5
  · unfold pc_fb at h6 ⊢; rw [e (88 + 2) (by omega)]; exact h6
/-- deeds done: noted -/
theorem pj_done {n : Nat} {μ ν : zz_Mem} {a : Nat → Int32} (hv : pv_D a) (hS : pv_S a (pr_st ν)) (hc : pI_c μ a (pr_st ν)) (hr : pI_r ν a) (hx : pI_x n μ ν a) {m3 ν3 : zz_Mem} {st' : Nat → Int32} (fc : pFc μ m3) (fr : pFr ν ν3) (hJ : pJ a 13 m3 ν3 st') (h66 : pc_stand m3 66 (pN a) (pF a) (pr_st ν)) (h17 : ∀ k, k < 19 → ν3.1 17 k = pr_st ν k) (d : Nat) (hd : d < 1000) : ∃ μ' ν', f_X11_remember (nI (d + 1)) m3 = some μ' ∧ f_X12_notes ν3 = some ν' ∧ pI n μ' ν' ∧ (∀ k, (k ≠ 0 ∧ (k < 34 ∨ 65 < k)) → μ'.1 k = m3.1 k) ∧ pq_fr [1] ν3 ν' ∧ ∀ j, j < 85 → ν'.1 1 j = ν3.1 1 j := by
  have hp : pX_past m3 ν3 a := pX_pastF hv hx.1 (fun k k1 k2 => (fc.1 k (by omega)).1) (fun j j1 j2 => fr.2.1 j (by omega))
  obtain ⟨m4, ν4, e1, e2, p4, f4, g4, w4⟩ := pj_note hv hp h66 h17 hS
  unfold f_X11_remember
  rw [if_neg (nI_nle (by omega) (by omega)), e1, pq_bndS, pq_letM, e2]
  obtain ⟨j1, j2, j3, j4, j5⟩ := hJ
  refine ⟨_, ν4, rfl, rfl, ⟨a, hv, ?_, ?_, ?_, ?_⟩, fun k hk => by rw [pz_In _ _ _ hk.1]; exact (f4 k (by omega) (by omega)).1, g4, fun j hj => w4 j (Or.inl hj)⟩
  · have e : ∀ k, k < 19 → pr_st ν4 k = st' k := fun k hk => by rw [← j4]; exact w4 _ (by omega)
    exact pv_SC hv j5 e
  · have e : ∀ k, k < 19 → pr_st ν4 k = st' k := fun k hk => by rw [← j4]; exact w4 _ (by omega)
    have hcd := pI_cD (st' := pr_st ν4) (m := zz_setI m3 0 18 1) hc (pFcT fc (pFc19 m3 (Or.inl rfl) 1)) (by
      have := pc_standC j2 (pN_b hv).1 (pF_b hv).1 e
      unfold pc_stand at this ⊢
      rw [pz_In _ _ _ (by decide), pz_In _ _ _ (by decide), pz_In _ _ _ (by decide)]
      exact this) (Or.inl qx_isE)
    -- noting touches none of it
    obtain ⟨h1, h2, h3, h4', h5, h6, h7⟩ := hcd
    have ee : ∀ k, (k < 34 ∨ 65 < k) → (zz_setI m4 0 18 1).1 k = (zz_setI m3 0 18 1).1 k := fun k hk => by
      by_cases c : k = 0
      · subst c
        rw [pz_Is, pz_Is, (f4 0 (by omega) (by omega)).1]
      · rw [pz_In _ _ _ c, pz_In _ _ _ c]; exact (f4 k (by omega) (by omega)).1
    refine ⟨?_, ?_, ?_, ?_, ?_, ?_, Or.inl qx_isE⟩
    · unfold pc_plan pc_law at h1 ⊢
      rw [ee 2 (by omega), ee (2 + 1) (by omega), ee (2 + 2) (by omega), ee (2 + 3) (by omega), ee (2 + 4) (by omega), ee (2 + 5) (by omega), ee (2 + 6) (by omega), ee (2 + 7) (by omega), ee (2 + 8) (by omega)]
      exact h1
    · unfold pc_stand at h2 ⊢; rw [ee 13 (by omega), ee (13 + 1) (by omega), ee (13 + 2) (by omega)]; exact h2
    · unfold pc_known at h3 ⊢; rw [ee 82 (by omega)]; exact h3
    · unfold pc_sched pc_row pc_pils pc_made at h4' ⊢
      rw [ee 72 (by omega), ee 73 (by omega), ee 74 (by omega), ee 75 (by omega), ee 76 (by omega), ee 77 (by omega), ee 79 (by omega), ee 80 (by omega)]
      exact h4'
    · unfold pc_fb at h5 ⊢; rw [ee (83 + 2) (by omega)]; exact h5
    · unfold pc_fb at h6 ⊢; rw [ee (88 + 2) (by omega)]; exact h6
  · refine ⟨fun j hj => ?_, ?_⟩
    · rw [w4 j (by omega)]; exact j3 j hj
    · exact pr_schedF (pr_schedF hr.2 fr.1 (fun j a1 a2 => by simp <;> omega)) g4 (fun j a1 a2 => by simp <;> omega)
  · refine pI_x2 hx ?_ ⟨fun k hk => ?_, ?_, ?_, ?_, ?_, ?_⟩ ⟨fun k hk => ?_, ?_, ?_, ?_, ?_, fun j hj => ?_⟩
    · exact pX_pastF hv p4 (fun k k1 k2 => pz_In _ _ _ (by omega)) (fun _ _ _ => rfl)
    · have q1 := f4 k (by omega) (by omega)
      have q2 := fc.1 k (by omega)
      exact ⟨by rw [pz_In _ _ _ (by omega), q1.1, q2.1], q1.2.1.trans q2.2.1⟩
    · exact (f4 30 (by omega) (by omega)).2.2.trans (fc.1 30 (by omega)).2.2
    · exact (f4 32 (by omega) (by omega)).2.2.trans (fc.1 32 (by omega)).2.2
    · rw [qx_isN (by decide), (f4 0 (by omega) (by omega)).1, fc.2 1 (by omega)]
    · rw [qx_isN (by decide), (f4 0 (by omega) (by omega)).1, fc.2 2 (by omega)]
    · rw [qx_isN (by decide), (f4 0 (by omega) (by omega)).1, fc.2 3 (by omega)]
    · rw [(g4 k (by simp <;> omega)).1, (fr.1 k (by simp <;> omega)).1]
    · rw [(g4 25 (by simp)).2.1, (fr.1 25 (by simp)).2.1]
    · rw [(g4 0 (by simp)).1, fr.2.2.1]
    · rw [(g4 0 (by simp)).1, fr.2.2.2.1]
    · rw [(g4 0 (by simp)).1, fr.2.2.2.2]
    · rw [w4 j (by omega), fr.2.1 j (by omega)]
/-- nothing done: nothing noted -/
theorem pj_none {n : Nat} {μ ν : zz_Mem} {a : Nat → Int32} (hv : pv_D a) (hS : pv_S a (pr_st ν)) (hc : pI_c μ a (pr_st ν)) (hr : pI_r ν a) (hx : pI_x n μ ν a) {m3 ν3 : zz_Mem} (fc : pFc μ m3) (fr : pFr ν ν3) (h13 : m3.1 13 = μ.1 13 ∧ m3.1 14 = μ.1 14 ∧ m3.1 15 = μ.1 15) (h18 : m3.1 0 18 = μ.1 0 18) (hs : ∀ k, k < 19 → ν3.1 1 (66 + k) = ν.1 1 (66 + k)) : pI n m3 ν3 := by
  have e : ∀ k, k < 19 → pr_st ν3 k = pr_st ν k := hs
  have e' : pr_st ν3 = pr_st ν := by
    funext k
    by_cases c : k < 19
    · exact e k c
    · exact fr.2.1 _ (by omega)
  refine ⟨a, hv, by rw [e']; exact hS, ?_, ⟨fun j hj => by rw [fr.2.1 j (by omega)]; exact hr.1 j hj, pr_schedF hr.2 fr.1 (fun j a1 a2 => by simp <;> omega)⟩, pI_x2 hx (pX_pastF hv hx.1 (fun k k1 k2 => (fc.1 k (by omega)).1) (fun j j1 j2 => fr.2.1 j (by omega))) ⟨fun k hk => ⟨(fc.1 k (by omega)).1, (fc.1 k (by omega)).2.1⟩, (fc.1 30 (by omega)).2.2, (fc.1 32 (by omega)).2.2, fc.2 1 (by omega), fc.2 2 (by omega), fc.2 3 (by omega)⟩ ⟨fun k hk => (fr.1 k (by simp <;> omega)).1, (fr.1 25 (by simp)).2.1, fr.2.2.1, fr.2.2.2.1, fr.2.2.2.2, fun j hj => fr.2.1 j (by omega)⟩⟩
  rw [e']
  refine pI_cD hc fc ?_ ?_
  · have h2 := hc.2.1
    unfold pc_stand at h2 ⊢
    rw [h13.1, show m3.1 (13 + 1) = m3.1 14 from rfl, show m3.1 (13 + 2) = m3.1 15 from rfl, h13.2.1, h13.2.2]
    exact h2
  · rw [h18]
    have h7 := hc.2.2.2.2.2.2
    unfold pc_now pc_cv pc_cnt at h7 ⊢
    rw [(fc.1 (83 + 1) (by omega)).1, (fc.1 (83 + 2) (by omega)).1]
    exact h7
