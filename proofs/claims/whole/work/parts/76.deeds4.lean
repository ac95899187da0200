/-! ===== 76: deeds told in trays, weeks ===== -/
theorem pt_no {μ ν : zz_Mem} (hx : ∀ t, t < 4 → pX_tray μ ν t) (p1 : Int32) : (∃ t sz so, t < 4 ∧ p1 = nI t ∧ sz ≤ 40 ∧ so ≤ 3 ∧ f_X11_noTray μ p1 = some 0 ∧ f_X10_isMissing (99 + 2 * t) μ = some 0 ∧ f_X12_noTray ν p1 = some 0 ∧ μ.1 (99 + 2 * t) 2 = nI sz ∧ ν.1 24 t = nI sz ∧ μ.1 (99 + 2 * t) 1 = nI so ∧ ν.1 23 t = nI so ∧ ∀ j, j < sz → μ.2.1 (99 + 2 * t + 1) j = ν.2.1 25 (40 * t + j)) ∨ (∃ t, t < 4 ∧ p1 = nI t ∧ f_X11_noTray μ p1 = some 0 ∧ f_X10_isMissing (99 + 2 * t) μ = some 1 ∧ f_X12_noTray ν p1 = some (-6)) ∨ (f_X11_noTray μ p1 = some 1 ∧ f_X12_noTray ν p1 = some (-2)) := by
  have a0 : (0 : Int64).toInt = 0 := rfl
  have a3 : (3 : Int64).toInt = 3 := rfl
  have l4 : (4 : Int32) = nI 4 := rfl
  unfold f_X11_noTray f_X12_noTray
  rw [l4]
  rcases pi_within p1.toInt64 0 3 with ⟨g1, g2, g3⟩ | ⟨g1, g3⟩
  · rw [Int32.toInt_toInt64, a0] at g1
    rw [Int32.toInt_toInt64, a3] at g2
    obtain ⟨t, t1, t2, t3⟩ := pi_to (x := p1) (by omega)
    rw [g3, pq_bndS, if_neg (show ¬ (1 : Int32) = 0 by decide), if_neg (by rw [pi_neg]; omega), if_pos (show p1 < nI 4 by rw [pi_nlt (by decide)]; omega), t1, pq_ixE (by omega) (by decide), nI_clamp (by omega)]
    rcases hx t (by omega) with ⟨q1, q2⟩ | ⟨sz, so, q1, q2, q3, q4, q5, q6, q7⟩
    · right; left
      refine ⟨t, by omega, rfl, rfl, ?_, by rw [q2, if_pos rfl]⟩
      unfold f_X10_isMissing
      rw [q1, if_pos rfl]
    · left
      have nm : ∀ k : Nat, k ≤ 40 → ¬ nI k = -1 := fun k hk e => by
        have : (nI k).toInt = (-1 : Int32).toInt := by rw [e]
        rw [nI_toInt (by omega)] at this
        have e1 : (-1 : Int32).toInt = -1 := rfl
        omega
      refine ⟨t, sz, so, by omega, rfl, q1, q2, rfl, ?_, by rw [q6, if_neg (nm so (by omega))], q3, q4, q5, q6, q7⟩
      unfold f_X10_isMissing
      rw [q3, if_neg (nm sz q1)]
  · rw [Int32.toInt_toInt64, a0, a3] at g1
    right; right
    refine ⟨?_, by rw [g3, pq_bndS, if_pos rfl]⟩
    by_cases c : p1 < 0
    · rw [if_pos c]
    · rw [if_neg c]
      rw [pi_neg] at c
      rw [if_neg (show ¬ p1 < nI 4 by rw [pi_nlt (by decide)]; omega)]
/-- all deeds of a tray, till one can't be -/
theorem pj_all {a : Nat → Int32} (hv : pv_D a) {o : Nat} (ho : o = 13 ∨ o = 69) {t sz : Nat} (ht : t < 4) (hsz : sz ≤ 40) : ∀ (r k fuel : Nat) (m ν : zz_Mem) (st : Nat → Int32), k + r = sz → r < fuel → pJ a o m ν st → m.1 (99 + 2 * t) 2 = nI sz → ν.1 24 t = nI sz → (∀ j, j < sz → m.2.1 (99 + 2 * t + 1) j = ν.2.1 25 (40 * t + j)) → ν.1 0 30 = 0 →
    ∃ k' w m' ν' st', k ≤ k' ∧ k' ≤ sz ∧ f_X11_doAll_5 (99 + 2 * t) o fuel (nI k) (nI k) m = some (nI k', m') ∧ f_X12_tells_7 fuel (nI t) (nI k) ν = some (nI k', ν') ∧ ν'.1 0 30 = w ∧ ((k' = sz ∧ w = 0) ∨ (k' < sz ∧ ¬ w = 0 ∧ f_X6_doDeed o (m'.2.1 (99 + 2 * t + 1) k') m' = some (w, m'))) ∧ pJ a o m' ν' st' ∧ pFc m m' ∧ pFr ν ν' ∧ pq_fr [o, o + 1, o + 2] m m' ∧ (k' = k → m' = m ∧ st' = st) ∧ ν'.1 17 = ν.1 17 := by
  have l40 : (40 : Int32) = nI 40 := rfl
  intro r
  induction r with
  | zero =>
    intro k fuel m ν st h1 h2 hJ e2 e24 hv2 h30
    obtain ⟨fu, rfl⟩ : ∃ n, fuel = n + 1 := ⟨fuel - 1, by omega⟩
    have e : k = sz := by omega
    subst e
    rw [f_X11_doAll_5, f_X12_tells_7, e2, if_pos (Int32.le_refl _), pq_ixE (by omega) (by decide), nI_clamp (by omega), e24, if_pos (Int32.le_refl _), pq_ixE (by omega) (by decide)]
    exact ⟨k, 0, m, ν, st, Nat.le_refl _, Nat.le_refl _, rfl, rfl, h30, Or.inl ⟨rfl, rfl⟩, hJ, pFc0 m, pFr0 ν, pq_fr0 m, fun _ => ⟨rfl, rfl⟩, rfl⟩
  | succ r ih =>
    intro k fuel m ν st h1 h2 hJ e2 e24 hv2 h30
    obtain ⟨fu, rfl⟩ : ∃ n, fuel = n + 1 := ⟨fuel - 1, by omega⟩
    have ev := hv2 k (by omega)
    rw [f_X11_doAll_5, f_X12_tells_7, e2, if_neg (nI_ge (by omega) (by omega)), pq_ixE (by omega) (by decide), nI_clamp (by omega), pq_ixE (by omega) (by decide), nI_clamp (by omega), e24, if_neg (nI_ge (by omega) (by omega)), l40, pk_mul, nI_add, pq_ixE (by omega) (by decide), nI_clamp (by omega), ← ev]
    rcases pj_deed hv ho hJ (m.2.1 (99 + 2 * t + 1) k) with ⟨m', ν', st', d1, d2, d3, d4, d5⟩ | ⟨w, w0, w1, w2⟩
    · obtain ⟨u1, u2⟩ := pFcJ ho d5
      have d3' : ∃ ν2, f_X12_does (m.2.1 (99 + 2 * t + 1) k).toInt32 (zz_setI ν 0 30 0) = some ν2 ∧ pJ a o m' ν2 st' ∧ pFr (zz_setI ν 0 30 0) ν2 ∧ ν2.1 0 = (zz_setI ν 0 30 0).1 0 ∧ ν2.1 17 = ν.1 17 ∧ ν2.1 24 = ν.1 24 ∧ ν2.2.1 25 = ν.2.1 25 := by
        rcases pj_deed hv ho (pJ_r (ν' := zz_setI ν 0 30 0) hJ rfl) (m.2.1 (99 + 2 * t + 1) k) with ⟨m'', ν'', st'', c1, c2, c3, c4, c5⟩ | ⟨w, w0, w1, w2⟩
        · rw [d1] at c1
          have em : m' = m'' := (Prod.mk.inj (Option.some.inj c1)).2
          obtain ⟨v1, v2⟩ := pFcJ ho c5
          have est : st'' = st' := by
            have q3 : ν''.1 1 = ν'.1 1 := by
              unfold f_X12_does at c3 d3
              by_cases b1 : (20 : Int32) ≤ (m.2.1 (99 + 2 * t + 1) k).toInt32
              · rw [if_pos b1] at c3 d3
                by_cases b2 : (10000 : Int32) ≤ (m.2.1 (99 + 2 * t + 1) k).toInt32
                · rw [if_pos b2] at c3 d3
                  unfold zz_ix at c3 d3
                  split at c3
                  · cases c3
                  · rename_i hb; rw [if_neg hb] at d3; rw [pq_letM] at c3 d3; rw [← Option.some.inj c3, ← Option.some.inj d3]; rfl
                · rw [if_neg b2] at c3 d3
                  unfold zz_ix at c3 d3
                  split at c3
                  · cases c3
                  · rename_i hb; rw [if_neg hb, if_neg hb] at d3; rw [pq_letM] at c3 d3; rw [← Option.some.inj c3, ← Option.some.inj d3]; rfl
              · rw [if_neg b1] at c3 d3
                rw [pq_letM] at c3 d3; rw [← Option.some.inj c3, ← Option.some.inj d3]; rfl
            rw [← c4.2.2.2.1, ← d4.2.2.2.1]; unfold pr_st; rw [q3]
          refine ⟨ν'', c3, by rw [em, ← est]; exact c4, v2, (c5.2.1 0 (by simp)).1, ?_, ?_, ?_⟩
          · rw [(c5.2.1 17 (by simp)).1, pz_In _ _ _ (by decide)]
          · rw [(c5.2.1 24 (by simp)).1, pz_In _ _ _ (by decide)]
          · rw [(c5.2.1 25 (by simp)).2.1]; rfl
        · rw [d1] at w1
          exact absurd (Prod.mk.inj (Option.some.inj w1)).1.symm w0
      obtain ⟨ν2, y1, y2, y3, y4, y5, y6, y7⟩ := d3'
      have e0 : (zz_setI ν 0 30 0).1 0 30 = 0 := qx_isE
      have e25 : (zz_setI ν 0 30 0).2.1 25 = ν.2.1 25 := rfl
      rw [d1, d2, pq_bnd2, pq_bndS, pq_letM, if_pos rfl, e0, if_pos rfl, pq_ixE (by omega) (by decide), e25, ← ev, y1, pq_bndS, pq_letI, pq_letI, pq_letI, nI_1]
      have f1 := d5.1
      obtain ⟨k', w, m2, ν3, st2, z1, z2, z3, z4, z5, z6, z7, z8, z9, z10, z11, z12⟩ := ih (k + 1) fu m' ν2 st' (by omega) (by omega) y2 (by rw [(f1 (99 + 2 * t) (by simp <;> omega)).1]; exact e2) (by rw [y6]; exact e24) (fun j hj => by rw [(f1 (99 + 2 * t + 1) (by simp <;> omega)).2.1, y7]; exact hv2 j hj) (by rw [y4]; exact qx_isE)
      exact ⟨k', w, m2, ν3, st2, by omega, z2, z3, z4, z5, z6, z7, pFcT u1 z8, pFrT (pFrI ν (by decide) 0) (pFrT y3 z9), pq_frT f1 z10, fun e => by omega, z12.trans y5⟩
    · have e0 : (zz_setI ν 0 30 w).1 0 30 = w := qx_isE
      rw [w1, w2, pq_bnd2, pq_bndS, pq_letM, if_neg w0, e0, if_neg w0]
      exact ⟨k, w, m, zz_setI ν 0 30 w, st, Nat.le_refl _, by omega, rfl, rfl, e0, Or.inr ⟨by omega, w0, w1⟩, pJ_r hJ rfl, pFc0 m, pFrI ν (by decide) w, pq_fr0 m, fun _ => ⟨rfl, rfl⟩, pz_In _ _ _ (by decide)⟩
theorem op_perform : zL_op15 pI := by
  intro n μ ν p1 ⟨a, hv, hS, hc, hr, hx⟩
  have k0 := pr_t0 hr 0 (by decide) 0
  have fr0 : pFr ν (zz_setI ν 0 0 0) := pFrI ν (by decide) 0
  obtain ⟨m1, e1, f1, fc1, h66, hJ⟩ := pj_start hv hS hc hr 66 (Or.inl rfl)
  have hJ1 := pJ_r (ν' := zz_setI ν 0 0 0) hJ rfl
  have hfu : zz_fuel = 5000 := rfl
  unfold f_X11_perform f_X12_perform
  rw [pq_letM]
  have htr : ∀ t, t < 4 → pX_tray μ (zz_setI ν 0 0 0) t := fun t ht => hx.2.1 t ht
  generalize zz_setI ν 0 0 0 = ν1 at *
  have fin := pI_mk hv hS hx hc (pK_c0 μ) k0.2.1 k0.1
  have es1 : pr_st ν1 = pr_st ν := hJ1.2.2.2.1
  rcases pt_no htr p1 with ⟨t, sz, so, t1, t2, t3, t4, t5, t6, t7, t8, t9, t10, t11, t12⟩ | ⟨t, t1, t2, t5, t6, t7⟩ | ⟨t5, t7⟩
  · obtain ⟨ν2, e2, f2, q2⟩ := pr_stores ν1
    have r1 : ν2.1 1 = ν1.1 1 := (f2 1 (by simp)).1
    have hJ2 := pJ_r (ν' := ν2) hJ1 r1
    unfold f_X12_tells f_X11_doAll
    rw [t5, t7, pq_bndS, pq_bndS, if_pos rfl, if_pos rfl, t2, pq_ixE (by omega) (by decide), nI_clamp (by omega), t6, pq_bndS, if_pos rfl, e1, pq_bndS, pq_ixE (by omega) (by decide), e2, pq_bndS, pq_letM]
    obtain ⟨k', w, m2, ν3, st2, z1, z2, z3, z4, z5, z6, z7, z8, z9, z10, z11, z12⟩ := pj_all hv (Or.inl rfl) t1 t3 sz 0 zz_fuel m1 (zz_setI ν2 0 30 0) (pr_st ν) (by omega) (by omega) (pJ_r hJ2 rfl) (by rw [(f1 (99 + 2 * t) (by simp <;> omega)).1]; exact t8) (by rw [pz_In _ _ _ (by decide), (f2 24 (by simp)).1]; exact t9) (fun j hj => by rw [(f1 (99 + 2 * t + 1) (by simp <;> omega)).2.1, show (zz_setI ν2 0 30 0).2.1 25 = ν2.2.1 25 from rfl, (f2 25 (by simp)).2.1]; exact t12 j hj) qx_isE
    have l0 : nI 0 = 0 := rfl
    rw [l0] at z3 z4
    rw [z3, z4, pq_bnd2, pq_bnd2]
    have fcA : pFc μ m2 := pFcT fc1 z8
    have frA : pFr ν ν3 := pFrT fr0 (pFrT (pFr17 f2) (pFrT (pFrI ν2 (by decide) 0) z9))
    have h66' : pc_stand m2 66 (pN a) (pF a) (pr_st ν) := pc_standF h66 z10 (by simp) (by simp) (by simp)
    have h17 : ∀ k, k < 19 → ν3.1 17 k = pr_st ν k := fun k hk => by rw [z12, pz_In _ _ _ (by decide), q2 k hk, es1]
    by_cases c : k' = 0
    · subst c
      obtain ⟨y1, y2⟩ := z11 rfl
      rw [if_pos (show nI 0 ≤ 0 by decide)]
      have er : f_X11_remember (nI 0) m2 = some m2 := by unfold f_X11_remember; rw [if_pos (show nI 0 ≤ 0 by decide)]
      rw [er, pq_bndS]
      refine ⟨_, _, _, rfl, rfl, pj_none hv hS hc hr hx fcA frA ?_ ?_ (fun k hk => ?_)⟩
      · rw [y1]; exact pj_keep13 f1 (by decide)
      · rw [y1, (f1 0 (by simp)).1]
      · have := congrFun z7.2.2.2.1 k
        rw [y2] at this
        exact this
    · obtain ⟨d, rfl⟩ : ∃ d, k' = d + 1 := ⟨k' - 1, by omega⟩
      obtain ⟨μ', ν', y1, y2, y3, y4, y5, y6⟩ := pj_done hv hS hc hr hx fcA frA z7 h66' h17 d (by omega)
      rw [if_neg (nI_nle (by omega) (by omega)), y1, y2, pq_bndS, pq_bndS]
      exact ⟨_, _, _, rfl, rfl, y3⟩
  · rw [t5, t7, pq_bndS, pq_bndS, if_pos rfl, if_neg (show ¬ (-6 : Int32) = 0 by decide), t2, pq_ixE (by omega) (by decide), nI_clamp (by omega), t6, pq_bndS, if_neg (show ¬ (1 : Int32) = 0 by decide)]
    exact ⟨_, _, _, rfl, rfl, fin⟩
  · rw [t5, t7, pq_bndS, pq_bndS, if_neg (show ¬ (1 : Int32) = 0 by decide), if_neg (show ¬ (-2 : Int32) = 0 by decide)]
    exact ⟨_, _, _, rfl, rfl, fin⟩
