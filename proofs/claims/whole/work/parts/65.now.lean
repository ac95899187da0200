/-! ===== 65: curves of now and on trial; factors, worth ===== -/
noncomputable def pFac (a : Nat → Int32) (c : Nat → Nat) : Nat → Int := Classical.epsilon (fun F => pf_FS a c F (pL a))
theorem pFac_S {a : Nat → Int32} {c : Nat → Nat} {F : Nat → Int} (h : pf_FS a c F (pL a)) : pf_FS a c (pFac a c) (pL a) := Classical.epsilon_spec (p := fun F => pf_FS a c F (pL a)) ⟨F, h⟩
theorem pFac_E {a : Nat → Int32} {c : Nat → Nat} {F : Nat → Int} (h : pf_FS a c F (pL a)) {k : Nat} (hk : k ≤ pL a) : F k = pFac a c k := pf_FSu h (pFac_S h) k hk (fun _ _ _ => rfl)
def pc_cw (m : zz_Mem) (o : Nat) (a : Nat → Int32) (c : Nat → Nat) : Prop := pc_cv m o a c (pFac a c)
theorem pc_cvw {m : zz_Mem} {o : Nat} {a : Nat → Int32} {c : Nat → Nat} {F : Nat → Int} (h : pc_cv m o a c F) : pc_cw m o a c := ⟨h.1, pFac_S h.2.1, fun j hj => by rw [← pFac_E h.2.1 hj]; exact h.2.2 j hj⟩
def pr_cw (m m' : zz_Mem) (a : Nat → Int32) (c : Nat → Nat) : Prop := pr_laid m m' a c (pFac a c)
theorem pr_lw {m m' : zz_Mem} {a : Nat → Int32} {c : Nat → Nat} {F : Nat → Int} (h : pr_laid m m' a c F) : pr_cw m m' a c := by
  obtain ⟨h1, h2, h3, h4, ⟨⟨p1, p2, p3⟩, s2, s3, s4⟩, h6⟩ := h
  exact ⟨h1, h2, h3, h4, ⟨⟨p1, p2, fun j hj => by rw [← pFac_E s2 hj]; exact p3 j hj⟩, pFac_S s2, s3, s4⟩, h6⟩
/-- counts of now -/
def pCn (a st : Nat → Int32) : Nat → Nat := pCnt a st (st 8)
theorem pCn_b (a st : Nat → Int32) (i : Nat) : pCn a st i ≤ 999 := pg_clB _
theorem pCb_b {c : Nat → Nat} {i j : Nat} {n : Int32} (h : c j ≤ 999) : pCb c i n j ≤ 999 := by
  unfold pCb va_up
  split
  · exact pg_clB _
  · exact h
/-- the factor at a day by counts -/
noncomputable def pX (a : Nat → Int32) (c : Nat → Nat) (d : Nat) : Int := pfa a (pL a) (pFac a c) d
theorem pX_b {a : Nat → Int32} (hv : pv_D a) {c : Nat → Nat} (hc : ∀ i, i < pN a → c i ≤ 999) (hF : pf_FS a c (pFac a c) (pL a)) (d : Nat) : 1 ≤ pX a c d ∧ pX a c d ≤ 1000000000 := pf_pos1 hv hc hF d
theorem pc_X {a : Nat → Int32} (hv : pv_D a) {m : zz_Mem} {o : Nat} {c : Nat → Nat} (hp : pc_plan m 2 a) (hs : pc_sched m a) (h : pc_cw m o a c) {d : Nat} (hd : d < 20000) : f_X1_factorAt o m (nI d) = some (iI (pX a c d)) :=
  pa_cFactorAt (pD_D hv) (pf_FSb h.2.1) hd hs.2.1.1 hs.2.1.2.1 h.2.2 (hp.2.1.trans (pCv_eq hv))
theorem pr_X {a : Nat → Int32} (hv : pv_D a) {m0 m : zz_Mem} {c : Nat → Nat} (hr : pI_r m a) (h : pr_cw m0 m a c) {d : Nat} (hd : d < 20000) : f_X12_factorAt m (nI d) = some (iI (pX a c d)) :=
  pr_fa hv hr.1 (Nat.le_refl _) (pf_FSb h.2.2.2.2.1.2.1) h.2.2.2.2.1.1 hd
theorem pr_cwK {m m' : zz_Mem} {a : Nat → Int32} {c : Nat → Nat} (h : pr_cw m m' a c) (hr : pI_r m a) : pK_r m m' ∧ pI_r m' a ∧ pr_st m' = pr_st m := by
  obtain ⟨h1, h2, h3, h4, h5, h6⟩ := h
  refine ⟨pK_rF h1 (by simp) (h3 5 (by decide)) (h3 13 (by decide)) (h3 14 (by decide)), ⟨by rw [(h1 1 (by simp)).1]; exact hr.1, pr_schedF hr.2 h1 (fun j a1 a2 => by simp <;> omega)⟩, ?_⟩
  unfold pr_st
  rw [(h1 1 (by simp)).1]
theorem pr_t0 {ν : zz_Mem} {a : Nat → Int32} (hr : pI_r ν a) (i : Nat) (hi : i ≠ 5 ∧ i ≠ 13 ∧ i ≠ 14) (v : Int32) : pK_r ν (zz_setI ν 0 i v) ∧ pI_r (zz_setI ν 0 i v) a ∧ pr_st (zz_setI ν 0 i v) = pr_st ν := by
  have f : pq_fr [0] ν (zz_setI ν 0 i v) := pq_frI (pq_fr0 ν) _ _ (by simp)
  refine ⟨pK_rI ν v (by decide) (fun _ => hi), ⟨hr.1, pr_schedF hr.2 f (fun j a1 a2 => by simp <;> omega)⟩, rfl⟩
/-- the class's dates and all else that a curve needs, over a frame -/
theorem pI_cF {L : List Nat} {m m' : zz_Mem} {a st : Nat → Int32} (h : pI_c m a st) (f : pq_fr L m m') (hL : ∀ k, k ∈ L → k ≠ 0 ∧ (15 < k ∨ k = 11 ∨ k = 12) ∧ (k < 72 ∨ 80 < k) ∧ k ≠ 82 ∧ (k < 83 ∨ 88 < k) ∧ k ≠ 90) : pI_c m' a st := by
  obtain ⟨h1, h2, h3, h4, h5, h6, h7⟩ := h
  have n : ∀ k, (k = 0 ∨ (k ≤ 15 ∧ k ≠ 11 ∧ k ≠ 12) ∨ (72 ≤ k ∧ k ≤ 80) ∨ k = 82 ∨ (83 ≤ k ∧ k ≤ 88) ∨ k = 90) → k ∉ L := fun k hk z => by have := hL k z; omega
  refine ⟨pc_planF h1 f (fun j hj => n _ (by omega)), pc_standF h2 f (n _ (by omega)) (n _ (by omega)) (n _ (by omega)), ?_, pc_schedF h4 f (fun j a1 a2 => n _ (by omega)), ?_, ?_, ?_⟩
  · unfold pc_known; rw [(f 82 (n _ (by omega))).1]; exact h3
  · unfold pc_fb; rw [(f (83 + 2) (n _ (by omega))).1]; exact h5
  · unfold pc_fb; rw [(f (88 + 2) (n _ (by omega))).1]; exact h6
  · unfold pc_now pc_cv pc_cnt
    rw [(f 0 (n _ (by omega))).1, (f (83 + 1) (n _ (by omega))).1, (f (83 + 2) (n _ (by omega))).1]; exact h7
theorem pc_solvedNow {a st : Nat → Int32} (hv : pv_D a) {μ : zz_Mem} (h : pI_c μ a st) : ∃ μ', f_X11_solvedNow μ = some μ' ∧ pK_c μ μ' ∧ pI_c μ' a st ∧ pc_cw μ' 83 a (pCn a st) ∧ μ'.1 0 18 = 0 ∧ pq_fr [0, 11, 12, 83, 84, 85, 86, 87] μ μ' := by
  obtain ⟨h1, h2, h3, h4, h5, h6, h7⟩ := h
  unfold f_X11_solvedNow
  rcases h7 with h7 | ⟨h7, F, hF⟩
  · rw [if_neg (by rw [h7]; decide), h2.1]
    obtain ⟨m1, e1, f1, c1⟩ := pc_countRates hv (o := 83) (o0 := 13) (Or.inl rfl) (Or.inl rfl) (st 8) (st := st) h1 h4 (fun j hj => h2.2.1 j hj)
    have hc1 : pc_cnt m1 83 a (pCn a st) := fun i hi => ⟨c1 i hi, pCn_b a st i⟩
    obtain ⟨m2, F', e2, f2, s2, r2, b2⟩ := pc_solve hv (c := pCn a st) (o := 83) (Or.inl rfl) (m := m1) (pc_planF h1 f1 (fun j hj => by simp <;> omega)) (pc_schedF h4 f1 (fun j a1 a2 => by simp <;> omega)) hc1 (by unfold pc_fb; rw [(f1 (83 + 2) (by simp)).1]; exact h5) (Nat.zero_le _) (F := fun _ => 1000000000) ⟨rfl, fun k q1 q2 => by omega⟩ (fun j q1 q2 => by omega)
    have e2' : f_X1_solve 83 1 m1 = some m2 := e2
    rw [e1, pq_bndS, e2', pq_bndS, pq_letM]
    have fr : pq_fr [11, 12, 83, 84, 85, 86, 87] μ m2 := pq_frT (pq_frW f1 (by simp <;> omega)) (pq_frW f2 (by simp <;> omega))
    have fr2 : pq_fr [0, 11, 12, 83, 84, 85, 86, 87] μ (zz_setI m2 0 18 0) := pq_frI (pq_frW fr (by simp <;> omega)) _ _ (by simp)
    have hcv : pc_cv (zz_setI m2 0 18 0) 83 a (pCn a st) F' := by
      refine ⟨?_, s2, ?_⟩
      · unfold pc_cnt; rw [pz_In _ _ _ (by decide), (f2 (83 + 1) (by simp)).1]; exact hc1
      · rw [pz_In _ _ _ (by decide)]; exact r2
    refine ⟨_, rfl, pK_cT (pK_cF fr (by simp <;> omega)) (pK_c18 m2 (Or.inl rfl) 0), ⟨pc_planF h1 fr2 (fun j hj => by simp <;> omega), pc_standF h2 fr2 (by simp) (by simp) (by simp), ?_, pc_schedF h4 fr2 (fun j a1 a2 => by simp <;> omega), ?_, ?_, Or.inr ⟨qx_isE, F', hcv⟩⟩, pc_cvw hcv, qx_isE, fr2⟩
    · unfold pc_known; rw [(fr2 82 (by simp)).1]; exact h3
    · unfold pc_fb; rw [pz_In _ _ _ (by decide)]; exact b2
    · unfold pc_fb; rw [(fr2 (88 + 2) (by simp)).1]; exact h6
  · rw [if_pos h7]
    exact ⟨μ, rfl, pK_c0 μ, ⟨h1, h2, h3, h4, h5, h6, Or.inr ⟨h7, F, hF⟩⟩, pc_cvw hF, h7, pq_fr0 μ⟩
/-- an input on trial -/
theorem pc_trial {a st : Nat → Int32} (hv : pv_D a) {μ : zz_Mem} (h : pI_c μ a st) {i : Nat} (hi : i < pN a) (n : Int32) : ∃ μ', f_X11_bumpedTrial (nI i) n μ = some μ' ∧ pK_c μ μ' ∧ pI_c μ' a st ∧ pc_cw μ' 83 a (pCn a st) ∧ pc_cw μ' 88 a (pCb (pCn a st) i n) ∧ μ'.1 0 18 = 0 := by
  have h8 := (pN_b hv).1
  have hL8 := (pD_D hv).2.1
  obtain ⟨m1, e1, k1, c1, w1, z1, -⟩ := pc_solvedNow hv h
  obtain ⟨h1, h2, h3, h4, h5, h6, h7⟩ := c1
  unfold f_X11_bumpedTrial f_X1_copyFrom
  rw [e1, pq_bndS, pq_letM, pq_letM, pq_bndS]
  generalize hm2 : zz_rowI (zz_rowI m1 89 (va_cpy (m1.1 84) (m1.1 89) 0 0 8)) 90 (va_cpy ((zz_rowI m1 89 (va_cpy (m1.1 84) (m1.1 89) 0 0 8)).1 85) ((zz_rowI m1 89 (va_cpy (m1.1 84) (m1.1 89) 0 0 8)).1 90) 0 0 9) = m2
  have f2 : pq_fr [89, 90] m1 m2 := by rw [← hm2]; exact pq_frr (pq_frr (pq_fr0 m1) _ (by simp)) _ (by simp)
  have r89 : ∀ j, j < 8 → m2.1 89 j = m1.1 84 j := fun j hj => by
    rw [← hm2, pz_rn _ _ (by decide), pz_rs, pk_cpy_in (by omega) (by omega), Nat.zero_add, Nat.sub_zero]
  have r90 : ∀ j, j < 9 → m2.1 90 j = m1.1 85 j := fun j hj => by
    rw [← hm2, pz_rs, pk_cpy_in (by omega) (by omega), Nat.zero_add, Nat.sub_zero, pz_rn _ _ (by decide)]
  have r84 : m2.1 84 = m1.1 84 := (f2 84 (by simp)).1
  have hin : f_X6_hasInput m2 (nI i) = some 1 := by
    have h5' : m2.1 2 5 = nI (pN a) := by rw [(f2 2 (by simp)).1]; exact h1.2.2.2.2.1.trans (pN_b hv).2
    have l8 : (8 : Int32) = nI 8 := rfl
    unfold f_X6_hasInput
    rw [h5', l8, if_neg (nI_pos (by omega)), if_neg (nI_ge (by omega) (by omega)), if_neg (nI_ge (by omega) (by omega))]
  have ec : m2.1 84 i = nI (pCn a st i) := by rw [r84]; exact (w1.1 i hi).1
  rw [hin, pq_bndS, if_neg (by decide), pq_ixE (by omega) (by decide), nI_clamp (by omega), ec, pg_bounds, pq_bndS, pq_ixE (by omega) (by decide), pq_letM, pq_ixE (by omega) (by decide)]
  generalize hm5 : zz_setI m2 89 i (nI (pg_cl (nI (pCn a st i) + n))) = m5
  have f5 : pq_fr [89, 90] m1 m5 := by rw [← hm5]; exact pq_frI f2 _ _ (by simp)
  have r77 : m5.1 77 = m1.1 77 := (f5 77 (by simp)).1
  have rr90 : m5.1 90 = m2.1 90 := by rw [← hm5, pz_In _ _ _ (by decide)]
  have hcnt : pc_cnt m5 88 a (pCb (pCn a st) i n) := fun j hj => by
    unfold pCb
    by_cases c : j = i
    · rw [c, ← hm5, qx_isE, va_up, if_pos rfl]; exact ⟨rfl, pg_clB _⟩
    · rw [← hm5, qx_isN c, va_up, if_neg c, r89 j (by omega)]; exact w1.1 j hj
  have hfb : pc_fb m5 88 := by
    obtain ⟨G, hG⟩ := h5
    refine ⟨G, fun j hj => ?_⟩
    rw [show m5.1 (88 + 2) j = m1.1 (83 + 2) j from by rw [show m5.1 (88 + 2) = m5.1 90 from rfl, rr90]; exact r90 j (by omega)]
    exact hG j hj
  have ic5 : ∀ m', pq_fr [88, 89, 90, 91, 92] m1 m' → pc_fb m' 88 → pI_c m' a st ∧ pc_cw m' 83 a (pCn a st) ∧ m'.1 0 18 = 0 ∧ pK_c μ m' := fun m' f fb => by
    have hz : m'.1 0 18 = 0 := by rw [(f 0 (by simp)).1]; exact z1
    have hcw : pc_cw m' 83 a (pCn a st) := by
      refine ⟨?_, w1.2.1, ?_⟩
      · unfold pc_cnt; rw [(f (83 + 1) (by simp)).1]; exact w1.1
      · rw [(f (83 + 2) (by simp)).1]; exact w1.2.2
    refine ⟨⟨pc_planF h1 f (fun j hj => by simp <;> omega), pc_standF h2 f (by simp) (by simp) (by simp), ?_, pc_schedF h4 f (fun j a1 a2 => by simp <;> omega), ?_, fb, Or.inr ⟨hz, _, hcw⟩⟩, hcw, hz, pK_cT k1 (pK_cF f (by simp <;> omega))⟩
    · unfold pc_known; rw [(f 82 (by simp)).1]; exact h3
    · unfold pc_fb; rw [(f (83 + 2) (by simp)).1]; exact h5
  rcases h4.2.2 i hi with ⟨l, l1, l2, l3, l4⟩ | ⟨l1, l2⟩
  · have lne : ¬ nI l = -1 := by
      intro e
      have : (nI l).toInt = (-1 : Int32).toInt := by rw [e]
      rw [nI_toInt (by omega)] at this
      have e1 : (-1 : Int32).toInt = -1 := rfl
      rw [e1] at this
      omega
    rw [r77, l4, if_neg lne, pq_ixE (by omega) (by decide)]
    obtain ⟨k, rfl⟩ : ∃ k, l = k + 1 := ⟨l - 1, by omega⟩
    have hFS : pf_FS a (pCb (pCn a st) i n) (pFac a (pCn a st)) k := by
      refine ⟨w1.2.1.1, fun j q1 q2 => ?_⟩
      have hne : pInp a j ≠ i := by rw [← l3]; exact pInp_inj q1 (by omega) l2
      have e : pf_fits a (pCb (pCn a st) i n) j (pFac a (pCn a st)) = pf_fits a (pCn a st) j (pFac a (pCn a st)) := funext (fun f => propext (pf_fitsC (by unfold pCb; rw [va_up, if_neg hne]) (fun _ _ => rfl) f))
      rw [e]
      exact w1.2.1.2 j q1 (by omega)
    obtain ⟨m6, F', e6, f6, s6, r6, b6⟩ := pc_solve hv (c := pCb (pCn a st) i n) (o := 88) (Or.inr rfl) (m := m5) (pc_planF h1 f5 (fun j hj => by simp <;> omega)) (pc_schedF h4 f5 (fun j a1 a2 => by simp <;> omega)) hcnt hfb (k := k) (by omega) hFS (fun j q1 q2 => by
      rw [show m5.1 (88 + 2) = m5.1 90 from rfl, rr90, r90 j (by omega)]; exact w1.2.2 j (by omega))
    rw [e6, pq_bndS]
    have fr : pq_fr [88, 89, 90, 91, 92] m1 m6 := pq_frT (pq_frW f5 (by simp <;> omega)) (pq_frW f6 (by simp <;> omega))
    obtain ⟨t1, t2, t3, t4⟩ := ic5 m6 fr b6
    exact ⟨m6, rfl, t4, t1, t2, pc_cvw ⟨by unfold pc_cnt; rw [(f6 (88 + 1) (by simp)).1]; exact hcnt, s6, r6⟩, t3⟩
  · rw [r77, l2, if_pos rfl]
    have fr : pq_fr [88, 89, 90, 91, 92] m1 m5 := pq_frW f5 (by simp <;> omega)
    obtain ⟨t1, t2, t3, t4⟩ := ic5 m5 fr hfb
    refine ⟨m5, rfl, t4, t1, t2, pc_cvw (F := pFac a (pCn a st)) ⟨hcnt, ⟨w1.2.1.1, fun j q1 q2 => ?_⟩, fun j hj => ?_⟩, t3⟩
    · have e : pf_fits a (pCb (pCn a st) i n) j (pFac a (pCn a st)) = pf_fits a (pCn a st) j (pFac a (pCn a st)) := funext (fun f => propext (pf_fitsC (by unfold pCb; rw [va_up, if_neg (l1 j q1 q2)]) (fun _ _ => rfl) f))
      rw [e]
      exact w1.2.1.2 j q1 q2
    · rw [show m5.1 (88 + 2) = m5.1 90 from rfl, rr90, r90 j (by omega)]; exact w1.2.2 j hj
/-- an unmet input, or one that can't go up, changes nothing -/
theorem pFac_un {a : Nat → Int32} {c c' : Nat → Nat} (hF : pf_FS a c (pFac a c) (pL a)) (h : ∀ j, 1 ≤ j → j ≤ pL a → c' (pInp a j) = c (pInp a j)) : ∀ k, k ≤ pL a → pFac a c' k = pFac a c k := by
  have h2 : pf_FS a c' (pFac a c) (pL a) := ⟨hF.1, fun j q1 q2 => by
    have e : pf_fits a c' j (pFac a c) = pf_fits a c j (pFac a c) := funext (fun f => propext (pf_fitsC (h j q1 q2) (fun _ _ => rfl) f))
    rw [e]; exact hF.2 j q1 q2⟩
  exact fun k hk => (pFac_E h2 hk).symm
/-- the worth of the book -/
noncomputable def pWs (a : Nat → Int32) (c : Nat → Nat) (st : Nat → Int32) : Nat → Int64
  | 0 => 0
  | k + 1 => pWs a c st k + (st (9 + k)).toInt64 * lI (pX a c (pv_n a (56 + k)))
noncomputable def pW (a : Nat → Int32) (c : Nat → Nat) (st : Nat → Int32) : Int64 := pWs a c st (pF a)
theorem pFl_b {a : Nat → Int32} (hv : pv_D a) {k : Nat} (hk : k < pF a) : a (56 + k) = nI (pv_n a (56 + k)) ∧ pv_n a (56 + k) ≤ 999 := hv.2.2.2.2.2.2.2.2.2 k hk
theorem pc_worth {a st : Nat → Int32} (hv : pv_D a) {m : zz_Mem} {o : Nat} {c : Nat → Nat} (hc : ∀ i, i < pN a → c i ≤ 999) (h : pI_c m a st) (hw : pc_cw m o a c) : f_X1_bookWorth o m = some (pW a c st) := by
  have hf := (pF_b hv).1
  have hfu : zz_fuel = 5000 := rfl
  have l10 : (10 : Int32) = nI 10 := rfl
  have h10 : m.1 2 10 = nI (pF a) := h.1.2.2.2.2.2.1.trans (pF_b hv).2
  have loop : ∀ (r k fuel : Nat), k + r = pF a → r < fuel → f_X1_bookWorth_4 o m fuel (pWs a c st k) (nI k) = some (pW a c st) := by
    intro r
    induction r with
    | zero =>
      intro k fuel h1 h2
      obtain ⟨fu, rfl⟩ : ∃ n, fuel = n + 1 := ⟨fuel - 1, by omega⟩
      have e : k = pF a := by omega
      subst e
      rw [f_X1_bookWorth_4, h10, if_pos (Int32.le_refl _)]
      rfl
    | succ r ih =>
      intro k fuel h1 h2
      obtain ⟨fu, rfl⟩ : ∃ n, fuel = n + 1 := ⟨fuel - 1, by omega⟩
      have hd := pFl_b hv (show k < pF a by omega)
      have hX := pX_b hv hc hw.2.1 (pv_n a (56 + k))
      have e8 : m.1 8 k = nI (pv_n a (56 + k)) := (h.1.2.2.2.2.2.2.2.2.1 k (show k < pF a by omega)).trans hd.1
      have e15 : m.1 15 k = st (9 + k) := h.2.1.2.2 k (by omega)
      rw [f_X1_bookWorth_4, h10, if_neg (nI_ge (by omega) (by omega)), l10, if_neg (nI_ge (by omega) (by omega)), pq_ixE (by omega) (by decide), pq_ixE (by omega) (by decide), nI_clamp (by omega), e8, pc_X hv h.1 h.2.2.2.1 hw (by omega), pq_bndS, pq_letJ, e15, iI_l (by omega) (by omega), pq_letI, nI_1]
      exact ih (k + 1) fu (by omega) (by omega)
  have := loop (pF a) 0 zz_fuel (by omega) (by omega)
  rw [nI_0] at this
  exact this
theorem pr_worth {a : Nat → Int32} (hv : pv_D a) {m0 m : zz_Mem} {c : Nat → Nat} (hc : ∀ i, i < pN a → c i ≤ 999) (hr : pI_r m a) (h : pr_cw m0 m a c) : f_X12_worthBy m = some (pW a c (pr_st m)) := by
  have hf := (pF_b hv).1
  have hfu : zz_fuel = 5000 := rfl
  have l75 : (75 : Int32) = nI 75 := rfl
  have l56 : (56 : Int32) = nI 56 := rfl
  have h5 : m.1 1 5 = nI (pF a) := (hr.1 5 (by omega)).trans (pF_b hv).2
  have loop : ∀ (r k fuel : Nat), k + r = pF a → r < fuel → f_X12_worthBy_4 m fuel (pWs a c (pr_st m) k) (nI k) = some (pW a c (pr_st m)) := by
    intro r
    induction r with
    | zero =>
      intro k fuel h1 h2
      obtain ⟨fu, rfl⟩ : ∃ n, fuel = n + 1 := ⟨fuel - 1, by omega⟩
      have e : k = pF a := by omega
      subst e
      rw [f_X12_worthBy_4, h5, if_pos (Int32.le_refl _)]
      rfl
    | succ r ih =>
      intro k fuel h1 h2
      obtain ⟨fu, rfl⟩ : ∃ n, fuel = n + 1 := ⟨fuel - 1, by omega⟩
      have hd := pFl_b hv (show k < pF a by omega)
      have hX := pX_b hv hc h.2.2.2.2.1.2.1 (pv_n a (56 + k))
      have e56 : m.1 1 (56 + k) = nI (pv_n a (56 + k)) := (hr.1 _ (by omega)).trans hd.1
      have e75 : m.1 1 (75 + k) = pr_st m (9 + k) := by unfold pr_st; rw [← Nat.add_assoc]
      rw [f_X12_worthBy_4, h5, if_neg (nI_ge (by omega) (by omega)), l75, nI_add, pq_ixE (by omega) (by decide), l56, nI_add, pq_ixE (by omega) (by decide), nI_clamp (by omega), nI_clamp (by omega), e56, pr_X hv hr h (by omega), pq_bndS, pq_letJ, e75, iI_l (by omega) (by omega), pq_letI, nI_1]
      exact ih (k + 1) fu (by omega) (by omega)
  have := loop (pF a) 0 zz_fuel (by omega) (by omega)
  rw [nI_0] at this
  exact this
theorem pr_curveN {a : Nat → Int32} (hv : pv_D a) {m : zz_Mem} (hr : pI_r m a) : ∃ m', f_X12_laysCurve m = some m' ∧ pr_cw m m' a (pCn a (pr_st m)) := by
  obtain ⟨m', F, e, l⟩ := pr_curve hv hr.1 hr.2
  exact ⟨m', e, pr_lw l⟩
theorem pr_withN {a : Nat → Int32} (hv : pv_D a) {m : zz_Mem} (hr : pI_r m a) {i : Nat} (hi : i < pN a) (n : Int32) : ∃ m', f_X12_laysWith (nI i) n m = some m' ∧ pr_cw m m' a (pCb (pCn a (pr_st m)) i n) := by
  obtain ⟨m', F, e, l⟩ := pr_with hv hr.1 hr.2 hi n
  exact ⟨m', e, pr_lw l⟩
theorem pr_worthNow {a : Nat → Int32} (hv : pv_D a) {m : zz_Mem} (hr : pI_r m a) : ∃ m', f_X12_worthNow m = some (pW a (pCn a (pr_st m)) (pr_st m), m') ∧ pK_r m m' ∧ pI_r m' a ∧ pr_st m' = pr_st m := by
  obtain ⟨m', e, l⟩ := pr_curveN hv hr
  obtain ⟨k1, k2, k3⟩ := pr_cwK l hr
  unfold f_X12_worthNow
  rw [e, pq_bndS, pr_worth hv (fun i _ => pCn_b _ _ i) k2 l, pq_bndS, k3]
  exact ⟨m', rfl, k1, k2, k3⟩
theorem pr_worthWith {a : Nat → Int32} (hv : pv_D a) {m : zz_Mem} (hr : pI_r m a) {i : Nat} (hi : i < pN a) (n : Int32) : ∃ m', f_X12_worthWith (nI i) n m = some (pW a (pCb (pCn a (pr_st m)) i n) (pr_st m), m') ∧ pK_r m m' ∧ pI_r m' a ∧ pr_st m' = pr_st m := by
  obtain ⟨m', e, l⟩ := pr_withN hv hr hi n
  obtain ⟨k1, k2, k3⟩ := pr_cwK l hr
  unfold f_X12_worthWith
  rw [e, pq_bndS, pr_worth hv (fun i _ => pCb_b (pCn_b _ _ i)) k2 l, pq_bndS, k3]
  exact ⟨m', rfl, k1, k2, k3⟩
