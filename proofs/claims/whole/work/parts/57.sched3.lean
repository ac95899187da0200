/-! ===== 57: the class lays pillars; both lay days ===== -/
theorem pc_pil {a : Nat → Int32} (hv : pv_D a) : ∀ (r k fuel : Nat) (m : zz_Mem), k + r = pN a → r < fuel → m.1 2 5 = nI (pN a) → (∀ j, j < pN a → m.1 74 j = nI (pE a j) ∧ m.1 73 j = nI (pS a j)) → (∀ j, j < pN a → m.1 78 j = nI (pO a j)) →
    pc_pils m (pE a) (pp_pil (pE a) (pS a) (pO a) k).1 (pp_pil (pE a) (pS a) (pO a) k).2 → (∀ j, j < k → pc_made m (pp_pil (pE a) (pS a) (pO a) k).1 (pp_pil (pE a) (pS a) (pO a) k).2 (pO a j)) →
    ∃ m', f_X8_layPillars_21 fuel (nI k) m = some m' ∧ pq_fr [72, 77, 79, 80] m m' ∧ pc_pils m' (pE a) (pL a) (pInp a) ∧ ∀ j, j < pN a → pc_made m' (pL a) (pInp a) (pO a j) := by
  have hN := (pN_b hv).1
  have hfu : zz_fuel = 5000 := rfl
  have ho := pO_I a
  intro r
  induction r with
  | zero =>
    intro k fuel m h1 h2 h3 h4 h5 h6 h7
    obtain ⟨n, rfl⟩ : ∃ n, fuel = n + 1 := ⟨fuel - 1, by omega⟩
    have e : k = pN a := by omega
    subst e
    rw [f_X8_layPillars_21, h3, if_pos (Int32.le_refl _)]
    exact ⟨m, rfl, pq_fr0 m, h6, h7⟩
  | succ r ih =>
    intro k fuel m h1 h2 h3 h4 h5 h6 h7
    obtain ⟨n, rfl⟩ : ∃ n, fuel = n + 1 := ⟨fuel - 1, by omega⟩
    have hpi := pp_pilI (s := pS a) ho k (by omega)
    have hx := ho.1 k (by omega)
    have hvi := pv_inD hv hx
    have eb := pE_b hvi
    have sb := pS_b hvi
    have hstep : pp_pil (pE a) (pS a) (pO a) (k + 1) = if pE a (pO a k) ≤ pp_day (pE a) (pp_pil (pE a) (pS a) (pO a) k).2 (pp_pil (pE a) (pS a) (pO a) k).1 ∨ pE a (pO a k) ≤ pS a (pO a k) then pp_pil (pE a) (pS a) (pO a) k else ((pp_pil (pE a) (pS a) (pO a) k).1 + 1, va_up (pp_pil (pE a) (pS a) (pO a) k).2 ((pp_pil (pE a) (pS a) (pO a) k).1 + 1) (pO a k)) := rfl
    have ih' := ih (k + 1) n
    rw [hstep] at ih'
    generalize hp : pp_pil (pE a) (pS a) (pO a) k = p at *
    obtain ⟨q1, q2, q3, q4⟩ := h6
    obtain ⟨i1, i2, i3, i4⟩ := hpi
    have hdb : pp_day (pE a) p.2 p.1 < 20000 := by
      have := i4 k (Nat.le_refl _) (by omega); omega
    have l1 : (1 : Int32) = nI 1 := rfl
    -- unmet
    have un : (pE a (pO a k) ≤ pp_day (pE a) p.2 p.1 ∨ pE a (pO a k) ≤ pS a (pO a k)) → ∃ m', f_X8_layPillars_79 (f_X8_layPillars_21 n) (nI k) (nI (pO a k)) 1 m = some m' ∧ pq_fr [72, 77, 79, 80] m m' ∧ pc_pils m' (pE a) (pL a) (pInp a) ∧ ∀ j, j < pN a → pc_made m' (pL a) (pInp a) (pO a j) := by
      intro hc
      unfold f_X8_layPillars_79 f_X8_layPillars_97
      rw [if_neg (by decide), pq_ixE (by omega) (by decide), nI_clamp (by omega), pq_letM, if_neg (by decide), pq_letI, nI_1]
      have fr : pq_fr [72, 77, 79, 80] m (zz_setI m 77 (pO a k) (-1)) := pq_frI (pq_fr0 m) _ _ (by simp)
      rw [if_pos hc] at ih'
      obtain ⟨m', g1, g2, g3, g4⟩ := ih' (zz_setI m 77 (pO a k) (-1)) (by omega) (by omega) (by rw [(fr 2 (by simp)).1]; exact h3) (by rw [(fr 74 (by simp)).1, (fr 73 (by simp)).1]; exact h4) (by rw [(fr 78 (by simp)).1]; exact h5) (by
          unfold pc_pils
          rw [pz_In _ _ _ (by decide), pz_In _ _ _ (by decide), pz_In _ _ _ (by decide)]
          exact ⟨q1, q2, q3, q4⟩) (fun j hj => by
          by_cases c : j = k
          · right
            rw [c]
            refine ⟨fun l a1 a2 => ?_, qx_isE⟩
            obtain ⟨-, -, j', b3, b4⟩ := i2 l a1 a2
            rw [← b4]
            exact (ho.2.1 j' k b3 (by omega)).2
          · have hne : pO a j ≠ pO a k := (ho.2.1 j k (by omega) (by omega)).2
            unfold pc_made
            rw [qx_isN hne]
            exact h7 j (by omega))
      exact ⟨m', g1, pq_frT fr g2, g3, g4⟩
    rw [f_X8_layPillars_21, h3, if_neg (nI_ge (by omega) (by omega)), pq_ixE (by omega) (by decide), nI_clamp (by omega), h5 k (by omega), pq_letI, pq_ixE (by omega) (by decide), q1, nI_pred, pq_ixE (by omega) (by decide), nI_clamp (by omega), nI_clamp (by omega), (h4 _ hx).1, (h4 _ hx).2, q2 p.1 (Nat.le_refl _)]
    by_cases c1 : pE a (pO a k) ≤ pp_day (pE a) p.2 p.1
    · rw [if_pos (nI_le c1 (by omega))]
      exact un (Or.inl c1)
    · rw [if_neg (nI_ge (by omega) (by omega)), pq_ixE (by omega) (by decide), pq_ixE (by omega) (by decide)]
      by_cases c2 : pE a (pO a k) ≤ pS a (pO a k)
      · rw [if_neg (nI_nlt c2 (by omega))]
        exact un (Or.inr c2)
      · rw [if_pos (nI_lt (by omega) (by omega))]
        have hc : ¬ (pE a (pO a k) ≤ pp_day (pE a) p.2 p.1 ∨ pE a (pO a k) ≤ pS a (pO a k)) := fun z => z.elim c1 c2
        rw [if_neg hc] at ih'
        unfold f_X8_layPillars_79 f_X8_layPillars_97
        rw [if_pos rfl, q1, pq_ixE (by omega) (by decide), nI_clamp (by omega), pq_letM, if_pos rfl, pq_ixE (by omega) (by decide)]
        have f1 : pq_fr [72, 77, 79, 80] m (zz_setI m 77 (pO a k) (nI (p.1 + 1))) := pq_frI (pq_fr0 m) _ _ (by simp)
        generalize hm1 : zz_setI m 77 (pO a k) (nI (p.1 + 1)) = m1 at *
        have e72 : m1.1 72 8 = nI (p.1 + 1) := by rw [← hm1, pz_In _ _ _ (by decide)]; exact q1
        have e74 : m1.1 74 (pO a k) = nI (pE a (pO a k)) := by rw [(f1 74 (by simp)).1]; exact (h4 _ hx).1
        rw [e72, pq_ixE (by omega) (by decide), nI_clamp (by omega), e74, pq_letM]
        have e72b : (zz_setI m1 79 (p.1 + 1) (nI (pE a (pO a k)))).1 72 8 = nI (p.1 + 1) := by rw [pz_In _ _ _ (by decide)]; exact e72
        rw [e72b, pq_ixE (by omega) (by decide), nI_clamp (by omega), pq_letM]
        have e72c : (zz_setI (zz_setI m1 79 (p.1 + 1) (nI (pE a (pO a k)))) 80 (p.1 + 1) (nI (pO a k))).1 72 8 = nI (p.1 + 1) := by rw [pz_In _ _ _ (by decide)]; exact e72b
        rw [e72c, nI_1, pq_letM, pq_letI, nI_1]
        have fr : pq_fr [72, 77, 79, 80] m (zz_setI (zz_setI (zz_setI m1 79 (p.1 + 1) (nI (pE a (pO a k)))) 80 (p.1 + 1) (nI (pO a k))) 72 8 (nI (p.1 + 1 + 1))) := pq_frI (pq_frI (pq_frI f1 _ _ (by simp)) _ _ (by simp)) _ _ (by simp)
        have r77 : (zz_setI (zz_setI (zz_setI m1 79 (p.1 + 1) (nI (pE a (pO a k)))) 80 (p.1 + 1) (nI (pO a k))) 72 8 (nI (p.1 + 1 + 1))).1 77 = (zz_setI m 77 (pO a k) (nI (p.1 + 1))).1 77 := by rw [pz_In _ _ _ (by decide), pz_In _ _ _ (by decide), pz_In _ _ _ (by decide), hm1]
        have r79 : ∀ j, (zz_setI (zz_setI (zz_setI m1 79 (p.1 + 1) (nI (pE a (pO a k)))) 80 (p.1 + 1) (nI (pO a k))) 72 8 (nI (p.1 + 1 + 1))).1 79 j = if j = p.1 + 1 then nI (pE a (pO a k)) else m.1 79 j := by
          intro j
          rw [pz_In _ _ _ (by decide), pz_In _ _ _ (by decide)]
          split
          · rename_i c; rw [c, qx_isE]
          · rename_i c; rw [qx_isN c, ← hm1, pz_In _ _ _ (by decide)]
        have r80 : ∀ j, (zz_setI (zz_setI (zz_setI m1 79 (p.1 + 1) (nI (pE a (pO a k)))) 80 (p.1 + 1) (nI (pO a k))) 72 8 (nI (p.1 + 1 + 1))).1 80 j = if j = p.1 + 1 then nI (pO a k) else m.1 80 j := by
          intro j
          rw [pz_In _ _ _ (by decide)]
          split
          · rename_i c; rw [c, qx_isE]
          · rename_i c; rw [qx_isN c, pz_In _ _ _ (by decide), ← hm1, pz_In _ _ _ (by decide)]
        have rl : (zz_setI (zz_setI (zz_setI m1 79 (p.1 + 1) (nI (pE a (pO a k)))) 80 (p.1 + 1) (nI (pO a k))) 72 8 (nI (p.1 + 1 + 1))).1 72 8 = nI (p.1 + 1 + 1) := qx_isE
        generalize zz_setI (zz_setI (zz_setI m1 79 (p.1 + 1) (nI (pE a (pO a k)))) 80 (p.1 + 1) (nI (pO a k))) 72 8 (nI (p.1 + 1 + 1)) = m2 at *
        obtain ⟨m', g1, g2, g3, g4⟩ := ih' m2 (by omega) (by omega) (by rw [(fr 2 (by simp)).1]; exact h3) (by rw [(fr 74 (by simp)).1, (fr 73 (by simp)).1]; exact h4) (by rw [(fr 78 (by simp)).1]; exact h5) ⟨rl, fun j hj => by
            have hj' : j ≤ p.1 + 1 := hj
            rw [r79]
            by_cases c : j = p.1 + 1
            · rw [if_pos c, c]; show _ = nI (pp_day (pE a) (va_up p.2 (p.1 + 1) (pO a k)) (p.1 + 1)); rw [pp_dayN]
            · rw [if_neg c]; show _ = nI (pp_day (pE a) (va_up p.2 (p.1 + 1) (pO a k)) j); rw [pp_dayU (by omega)]; exact q2 j (by omega), fun j hj0 hj => by
            have hj' : j ≤ p.1 + 1 := hj
            rw [r80]
            by_cases c : j = p.1 + 1
            · rw [if_pos c]; show _ = nI (va_up p.2 (p.1 + 1) (pO a k) j); rw [va_up, if_pos c]
            · rw [if_neg c]; show _ = nI (va_up p.2 (p.1 + 1) (pO a k) j); rw [va_up, if_neg c]; exact q3 j hj0 (by omega), by rw [r80, if_neg (by omega)]; exact q4⟩ (fun j hj => by
            by_cases c : j = k
            · left
              refine ⟨p.1 + 1, by omega, Nat.le_refl _, ?_, ?_⟩
              · show va_up p.2 (p.1 + 1) (pO a k) (p.1 + 1) = _; rw [va_up, if_pos rfl, c]
              · rw [r77, c, qx_isE]
            · have hne : pO a j ≠ pO a k := (ho.2.1 j k (by omega) (by omega)).2
              rcases h7 j (by omega) with ⟨l, a1, a2, a3, a4⟩ | ⟨a1, a2⟩
              · left
                refine ⟨l, a1, by show l ≤ p.1 + 1; omega, ?_, ?_⟩
                · show va_up p.2 (p.1 + 1) (pO a k) l = _; rw [va_up, if_neg (by omega)]; exact a3
                · rw [r77, qx_isN hne]; exact a4
              · right
                refine ⟨fun l b1 b2 => ?_, ?_⟩
                · show va_up p.2 (p.1 + 1) (pO a k) l ≠ _
                  have b2' : l ≤ p.1 + 1 := b2
                  by_cases c3 : l = p.1 + 1
                  · rw [va_up, if_pos c3]; exact fun z => hne z.symm
                  · rw [va_up, if_neg c3]; exact a1 l b1 (by omega)
                · rw [r77, qx_isN hne]; exact a2)
        exact ⟨m', g1, pq_frT fr g2, g3, g4⟩
theorem pc_lay9 {a : Nat → Int32} (hv : pv_D a) : ∀ (r i fuel : Nat) (m : zz_Mem), i + r = pN a → r < fuel → pc_plan m 2 a → pc_known m a → (∀ j, j < i → pc_row m a j) → ∃ m', f_X8_lay_9 fuel (nI i) m = some m' ∧ pq_fr [11, 12, 82, 72, 73, 74, 75, 76, 77, 78, 79, 80] m m' ∧ pc_known m' a ∧ pc_sched m' a := by
  have hN := (pN_b hv).1
  have hfu : zz_fuel = 5000 := rfl
  intro r
  induction r with
  | zero =>
    intro i fuel m h1 h2 hp hk hr
    obtain ⟨n, rfl⟩ : ∃ n, fuel = n + 1 := ⟨fuel - 1, by omega⟩
    have e : i = pN a := by omega
    subst e
    have h5 : m.1 2 5 = nI (pN a) := hp.2.2.2.2.1.trans (pN_b hv).2
    rw [f_X8_lay_9, h5, if_pos (Int32.le_refl _)]
    unfold f_X8_lay_92
    obtain ⟨m1, e1, f1, g1⟩ := pc_sort hv (pN a) 0 zz_fuel m (by omega) (by omega) h5 (fun j hj => (hr j hj).2.1) (fun j hj => absurd hj (Nat.not_lt_zero _))
    rw [nI_0] at e1
    unfold f_X8_sortByEnds
    rw [e1, pq_bndS]
    unfold f_X8_layPillars
    rw [pq_letM, pq_letM, pq_letM]
    generalize hm2 : zz_setI (zz_setI (zz_setI m1 79 0 0) 80 0 (-1)) 72 8 1 = m2
    have f2 : pq_fr [72, 77, 79, 80] m1 m2 := by
      rw [← hm2]
      exact pq_frI (pq_frI (pq_frI (pq_fr0 m1) _ _ (by simp)) _ _ (by simp)) _ _ (by simp)
    obtain ⟨m', g2, g3, g4, g5⟩ := pc_pil hv (pN a) 0 zz_fuel m2 (by omega) (by omega) (by rw [(f2 2 (by simp)).1, (f1 2 (by simp)).1]; exact h5) (fun j hj => by
        rw [(f2 74 (by simp)).1, (f2 73 (by simp)).1, (f1 74 (by simp)).1, (f1 73 (by simp)).1]
        exact ⟨(hr j hj).2.1, (hr j hj).1⟩) (by rw [(f2 78 (by simp)).1]; exact g1) (by
        refine ⟨by rw [← hm2]; exact qx_isE, fun k hk' => ?_, fun k hk0 hk' => ?_, ?_⟩
        · have hk'' : k ≤ 0 := hk'
          rw [show k = 0 by omega, ← hm2, pz_In _ _ _ (by decide), pz_In _ _ _ (by decide), qx_isE]
          rfl
        · have hk'' : k ≤ 0 := hk'
          omega
        · rw [← hm2, pz_In _ _ _ (by decide), qx_isE]) (fun j hj => absurd hj (Nat.not_lt_zero _))
    rw [nI_0] at g2
    rw [g2, pq_bndS]
    have fr : pq_fr [72, 77, 78, 79, 80] m m' := pq_frT (pq_frW f1 (by simp)) (pq_frT (pq_frW f2 (by simp <;> omega)) (pq_frW g3 (by simp <;> omega)))
    refine ⟨m', rfl, pq_frW fr (by simp <;> omega), ?_, fun i hi => ?_, g4, fun x hx => ?_⟩
    · unfold pc_known; rw [(fr 82 (by simp)).1]; exact hk
    · unfold pc_row
      rw [(fr 73 (by simp)).1, (fr 74 (by simp)).1, (fr 75 (by simp)).1, (fr 76 (by simp)).1]
      exact hr i hi
    · obtain ⟨j, j1, j2⟩ := (pO_I a).2.2 x hx
      rw [← j2]
      exact g5 j j1
  | succ r ih =>
    intro i fuel m h1 h2 hp hk hr
    obtain ⟨n, rfl⟩ : ∃ n, fuel = n + 1 := ⟨fuel - 1, by omega⟩
    have hiN : i < pN a := by omega
    have hvi := pv_inD hv hiN
    have h5 : m.1 2 5 = nI (pN a) := hp.2.2.2.2.1.trans (pN_b hv).2
    have hpi := hp.2.2.2.2.2.2.2.1 i hiN
    have key : ∀ m1, pq_fr [11, 12, 82] m m1 → pc_known m1 a → ∃ m', f_X8_lay_58 (f_X8_lay_9 n) (nI i) (nI (pS a i)) (nI i) m1 = some m' ∧ pq_fr [11, 12, 82, 72, 73, 74, 75, 76, 77, 78, 79, 80] m m' ∧ pc_known m' a ∧ pc_sched m' a := by
      intro m1 f1 k1
      unfold f_X8_lay_58
      rw [pq_ixE (by omega) (by decide), nI_clamp (by omega), pq_letM, pq_ixE (by omega) (by decide)]
      generalize hm2 : zz_setI m1 73 i (nI (pS a i)) = m2
      have f2 : pq_fr [11, 12, 82, 73] m m2 := by rw [← hm2]; exact pq_frI (pq_frW f1 (by simp <;> omega)) _ _ (by simp)
      have hp2 : pc_plan m2 2 a := pc_planF hp f2 (fun j hj => by simp <;> omega)
      have k2 : pc_known m2 a := by unfold pc_known; rw [← hm2, pz_In _ _ _ (by decide)]; exact k1
      have e6 : m2.1 6 i = nI (pv_n a (40 + i)) := by
        rw [(f2 6 (by simp)).1]
        rw [show m.1 6 i = a (40 + i) from hpi.2.2.1]; exact hvi.2.2.1.1
      have b40 := hvi.2.2.1.2
      obtain ⟨m3, e3, f3, k3⟩ := pc_putOff (d := pv_n a (40 + i)) (by omega) hv hp2 k2
      rw [e6, e3, pq_bnd2, pq_ixE (by omega) (by decide), pq_letM]
      generalize hm4 : zz_setI m3 74 i (nI (pd_off a (pv_n a (40 + i)))) = m4
      have f4 : pq_fr [11, 12, 82, 73, 74] m m4 := by rw [← hm4]; exact pq_frI (pq_frT (pq_frW f2 (by simp <;> omega)) (pq_frW f3 (by simp <;> omega))) _ _ (by simp)
      have k4 : pc_known m4 a := by unfold pc_known; rw [← hm4, pz_In _ _ _ (by decide)]; exact k3
      obtain ⟨m5, e5, f5, k5, g1, g2, g3, g4⟩ := pc_periods hv hiN (m := m4) (pc_planF hp f4 (fun j hj => by simp <;> omega)) k4
      rw [e5, pq_bndS, pq_letI, nI_1]
      have fr : pq_fr [11, 12, 82, 73, 74, 75, 76] m m5 := pq_frT (pq_frW f4 (by simp <;> omega)) (pq_frW f5 (by simp <;> omega))
      obtain ⟨m', z1, z2, z3, z4⟩ := ih (i + 1) n m5 (by omega) (by omega) (pc_planF hp fr (fun j hj => by simp <;> omega)) k5 (fun j hj => by
        have r73 : m5.1 73 = m2.1 73 := by rw [(f5 73 (by simp)).1, ← hm4, pz_In _ _ _ (by decide), (f3 73 (by simp)).1]
        have r74 : m5.1 74 = (zz_setI m3 74 i (nI (pd_off a (pv_n a (40 + i))))).1 74 := by rw [(f5 74 (by simp)).1, ← hm4]
        by_cases c : j = i
        · rw [c]
          refine ⟨?_, ?_, g1, g2⟩
          · rw [r73, ← hm2, qx_isE]
          · rw [r74, qx_isE]; rfl
        · obtain ⟨o1, o2, o3, o4⟩ := hr j (by omega)
          have hjN := pM_b (pv_inD hv (show j < pN a by omega))
          refine ⟨?_, ?_, ?_, fun k hk' => ?_⟩
          · rw [r73, ← hm2, qx_isN c, (f1 73 (by simp)).1]; exact o1
          · rw [r74, qx_isN c, (f3 74 (by simp)).1, (f2 74 (by simp)).1]; exact o2
          · rw [g3 j c, (f4 75 (by simp)).1]; exact o3
          · rw [g4 _ (by omega), (f4 76 (by simp)).1]; exact o4 k hk')
      exact ⟨m', z1, pq_frT (pq_frW fr (by simp <;> omega)) z2, z3, z4⟩
    have e4 : m.1 4 i = nI (pK a i) := by rw [show m.1 4 i = a (24 + i) from hpi.1]; exact hvi.1.1
    have b24 := hvi.1.2
    rw [f_X8_lay_9, h5, if_neg (nI_ge (by omega) (by omega)), pq_ixE (by omega) (by decide), nI_clamp (by omega), e4]
    by_cases c : pK a i = 1
    · rw [if_pos (by rw [c]; rfl), pq_ixE (by omega) (by decide)]
      have e5 : m.1 5 i = nI (pv_n a (32 + i)) := by rw [show m.1 5 i = a (32 + i) from hpi.2.1]; exact hvi.2.1.1
      have b32 := hvi.2.1.2
      obtain ⟨m1, z1, z2, z3⟩ := pc_putOff (d := pv_n a (32 + i)) (by omega) hv hp hk
      rw [e5, z1, pq_bnd2]
      have hs : pS a i = pd_off a (pv_n a (32 + i)) := by unfold pS; rw [if_pos c]
      rw [← hs]
      exact key m1 z2 z3
    · have l1 : (1 : Int32) = nI 1 := rfl
      have c' : ¬ nI (pK a i) = 1 := by
        rw [l1, nI_eq (by unfold pK; omega) (by decide)]
        exact c
      rw [if_neg c']
      have hs : pS a i = 0 := by unfold pS; rw [if_neg c]
      have := key m (pq_fr0 m) hk
      rw [hs] at this
      exact this
theorem pc_lay {a : Nat → Int32} (hv : pv_D a) {m : zz_Mem} (hp : pc_plan m 2 a) : ∃ m', f_X8_lay m = some m' ∧ pq_fr [11, 12, 82, 72, 73, 74, 75, 76, 77, 78, 79, 80] m m' ∧ pc_known m' a ∧ pc_sched m' a := by
  obtain ⟨m1, e1, f1, k1⟩ := pc_forget m a
  have hN := (pN_b hv).1
  have hfu : zz_fuel = 5000 := rfl
  obtain ⟨m2, e2, f2, k2, s2⟩ := pc_lay9 hv (pN a) 0 zz_fuel m1 (by omega) (by omega) (pc_planF hp f1 (fun j hj => by simp <;> omega)) k1 (fun j hj => absurd hj (Nat.not_lt_zero _))
  unfold f_X8_lay
  rw [e1, pq_bndS]
  rw [nI_0] at e2
  exact ⟨m2, e2, pq_frT (pq_frW f1 (by simp)) f2, k2, s2⟩
/-- what the reference has laid -/
def pr_row (m : zz_Mem) (a : Nat → Int32) (i : Nat) : Prop := m.1 7 i = nI (pS a i) ∧ m.1 8 i = nI (pE a i) ∧ m.1 10 i = nI (pM a i) ∧ ∀ k, k < pM a i → m.1 11 (34 * i + k) = nI (pP a i k)
def pr_sched (m : zz_Mem) (a : Nat → Int32) : Prop := (∀ i, i < pN a → pr_row m a i) ∧ ∀ j, j < pN a → m.1 9 j = nI (pO a j)
theorem pr_schedF {L : List Nat} {m m' : zz_Mem} {a : Nat → Int32} (h : pr_sched m a) (f : pq_fr L m m') (hL : ∀ j, 7 ≤ j → j ≤ 11 → j ∉ L) : pr_sched m' a := by
  have e : ∀ j, 7 ≤ j → j ≤ 11 → m'.1 j = m.1 j := fun j h1 h2 => (f j (hL j h1 h2)).1
  unfold pr_sched pr_row
  rw [e 7 (by omega) (by omega), e 8 (by omega) (by omega), e 9 (by omega) (by omega), e 10 (by omega) (by omega), e 11 (by omega) (by omega)]
  exact h
theorem pr_periods {a : Nat → Int32} (hv : pv_D a) {i : Nat} (hN : i < pN a) {m : zz_Mem} (hm : pv_ag (m.1 1) a) : ∃ m', f_X12_laysPeriods (nI i) m = some m' ∧ pq_fr [5, 6, 10, 11] m m' ∧ m'.1 10 i = nI (pM a i) ∧ (∀ k, k < pM a i → m'.1 11 (34 * i + k) = nI (pP a i k)) ∧ (∀ j, j ≠ i → m'.1 10 j = m.1 10 j) ∧ ∀ j, j < 34 * i → m'.1 11 j = m.1 11 j := by
  have hfu : zz_fuel = 5000 := rfl
  have hi : i < 8 := Nat.lt_of_lt_of_le hN (pN_b hv).1
  have h := pv_inD hv hN
  have l24 : (24 : Int32) = nI 24 := rfl
  have l40 : (40 : Int32) = nI 40 := rfl
  have b24 := h.1.2
  unfold f_X12_laysPeriods
  rw [pq_ixE (by omega) (by decide), nI_clamp (by omega), pq_letM, l24, nI_add, pq_ixE (by omega) (by decide), nI_clamp (by omega)]
  generalize hm1 : zz_setI m 10 i 0 = m1
  have f1 : pq_fr [5, 6, 10, 11] m m1 := by rw [← hm1]; exact pq_frI (pq_fr0 m) _ _ (by simp)
  have hg1 : pv_ag (m1.1 1) a := by rw [(f1 1 (by simp)).1]; exact hm
  have e24 : m1.1 1 (24 + i) = nI (pK a i) := by rw [hg1 _ (by omega)]; exact h.1.1
  have e40 : m1.1 1 (40 + i) = nI (pv_n a (40 + i)) := by rw [hg1 _ (by omega)]; exact h.2.2.1.1
  rw [e24]
  by_cases hk : pK a i = 2
  · obtain ⟨b1, b2, b3, b4, b5, b6, b7⟩ := pQ_b h hk
    have pin := pP_in h hk (Nat.le_refl (pQ a i))
    rw [if_pos (by rw [hk]; rfl), l40, nI_add, pq_ixE (by omega) (by decide), nI_clamp (by omega), e40, pq_letI]
    have e31 := ps_r31 hi h hk hg1 (pQ a i) zz_fuel (Nat.le_refl _) (by omega)
    rw [pin.2.2.2] at e31
    rw [e31]
    obtain ⟨m', g1, g2, g3, g4, g5, g6⟩ := ps_r61 hv hi h hk (pQ a i + 1) 0 zz_fuel m1 (by omega) (by omega) hg1 (by rw [← hm1, qx_isE]; rfl) (fun j hj => absurd hj (Nat.not_lt_zero _))
    rw [Nat.zero_mul, Nat.add_zero] at g1
    have eM : pM a i = pQ a i + 1 := by unfold pM; rw [if_pos hk]
    refine ⟨m', g1, pq_frT f1 g2, by rw [g3, eM], fun k hk' => g4 k (by omega), fun j hj => ?_, fun j hj => ?_⟩
    · rw [g5 j hj, ← hm1, qx_isN hj]
    · rw [g6 j hj, ← hm1, pz_In _ _ _ (by decide)]
  · have eM : pM a i = 0 := by unfold pM; rw [if_neg hk]
    have l2 : (2 : Int32) = nI 2 := rfl
    have c' : ¬ nI (pK a i) = 2 := by
      rw [l2, nI_eq (by unfold pK; omega) (by decide)]
      exact hk
    rw [if_neg c']
    refine ⟨m1, rfl, f1, by rw [← hm1, qx_isE, eM]; rfl, fun k hk' => by omega, fun j hj => ?_, fun j hj => ?_⟩
    · rw [← hm1, qx_isN hj]
    · rw [← hm1, pz_In _ _ _ (by decide)]
theorem pr_days {a : Nat → Int32} (hv : pv_D a) : ∀ (r i fuel : Nat) (m : zz_Mem), i + r = pN a → r < fuel → pv_ag (m.1 1) a → (∀ j, j < i → pr_row m a j) → (∀ j, j < i → m.1 9 j = nI (po_ord (pE a) i j)) → ∃ m', f_X12_laysDays_2 fuel (nI i) m = some m' ∧ pq_fr [5, 6, 7, 8, 9, 10, 11] m m' ∧ pr_sched m' a := by
  have hN := (pN_b hv).1
  have hfu : zz_fuel = 5000 := rfl
  intro r
  induction r with
  | zero =>
    intro i fuel m h1 h2 hm hr ho
    obtain ⟨n, rfl⟩ : ∃ n, fuel = n + 1 := ⟨fuel - 1, by omega⟩
    have e : i = pN a := by omega
    subst e
    have h5 : m.1 1 4 = nI (pN a) := (hm 4 (by omega)).trans (pN_b hv).2
    rw [f_X12_laysDays_2, h5, if_pos (Int32.le_refl _)]
    exact ⟨m, rfl, pq_fr0 m, hr, ho⟩
  | succ r ih =>
    intro i fuel m h1 h2 hm hr ho
    obtain ⟨n, rfl⟩ : ∃ n, fuel = n + 1 := ⟨fuel - 1, by omega⟩
    have hiN : i < pN a := by omega
    have hvi := pv_inD hv hiN
    have h5 : m.1 1 4 = nI (pN a) := (hm 4 (by omega)).trans (pN_b hv).2
    have l24 : (24 : Int32) = nI 24 := rfl
    have l32 : (32 : Int32) = nI 32 := rfl
    have l40 : (40 : Int32) = nI 40 := rfl
    have key : ∀ m1, pq_fr [5, 6] m m1 → ∃ m', f_X12_laysDays_47 (f_X12_laysDays_2 n) (nI i) (nI (pS a i)) (nI i) m1 = some m' ∧ pq_fr [5, 6, 7, 8, 9, 10, 11] m m' ∧ pr_sched m' a := by
      intro m1 f1
      unfold f_X12_laysDays_47
      rw [pq_ixE (by omega) (by decide), nI_clamp (by omega), pq_letM, l40, nI_add, pq_ixE (by omega) (by decide), nI_clamp (by omega)]
      generalize hm2 : zz_setI m1 7 i (nI (pS a i)) = m2
      have f2 : pq_fr [5, 6, 7] m m2 := by rw [← hm2]; exact pq_frI (pq_frW f1 (by simp <;> omega)) _ _ (by simp)
      have hg2 : pv_ag (m2.1 1) a := by rw [(f2 1 (by simp)).1]; exact hm
      have e6 : m2.1 1 (40 + i) = nI (pv_n a (40 + i)) := by rw [hg2 _ (by omega)]; exact hvi.2.2.1.1
      have b40 := hvi.2.2.1.2
      obtain ⟨m3, e3, f3⟩ := pr_off (d := pv_n a (40 + i)) hg2 hv (by omega)
      rw [e6, e3, pq_bnd2, pq_ixE (by omega) (by decide), pq_letM]
      generalize hm4 : zz_setI m3 8 i (nI (pd_off a (pv_n a (40 + i)))) = m4
      have f4 : pq_fr [5, 6, 7, 8] m m4 := by rw [← hm4]; exact pq_frI (pq_frT (pq_frW f2 (by simp <;> omega)) (pq_frW f3 (by simp <;> omega))) _ _ (by simp)
      obtain ⟨m5, e5, f5, g1, g2, g3, g4⟩ := pr_periods hv hiN (m := m4) (by rw [(f4 1 (by simp)).1]; exact hm)
      rw [e5, pq_bndS]
      have fr : pq_fr [5, 6, 7, 8, 10, 11] m m5 := pq_frT (pq_frW f4 (by simp <;> omega)) (pq_frW f5 (by simp <;> omega))
      have r7 : m5.1 7 = m2.1 7 := by rw [(f5 7 (by simp)).1, ← hm4, pz_In _ _ _ (by decide), (f3 7 (by simp)).1]
      have r8 : m5.1 8 = (zz_setI m3 8 i (nI (pd_off a (pv_n a (40 + i))))).1 8 := by rw [(f5 8 (by simp)).1, ← hm4]
      have rows : ∀ j, j < i + 1 → pr_row m5 a j := fun j hj => by
        by_cases c : j = i
        · rw [c]
          refine ⟨?_, ?_, g1, g2⟩
          · rw [r7, ← hm2, qx_isE]
          · rw [r8, qx_isE]; rfl
        · obtain ⟨o1, o2, o3, o4⟩ := hr j (by omega)
          have hjN := pM_b (pv_inD hv (show j < pN a by omega))
          refine ⟨?_, ?_, ?_, fun k hk' => ?_⟩
          · rw [r7, ← hm2, qx_isN c, (f1 7 (by simp)).1]; exact o1
          · rw [r8, qx_isN c, (f3 8 (by simp)).1, (f2 8 (by simp)).1]; exact o2
          · rw [g3 j c, (f4 10 (by simp)).1]; exact o3
          · rw [g4 _ (by omega), (f4 11 (by simp)).1]; exact o4 k hk'
      obtain ⟨m6, e6', f6, g6⟩ := po_r (e := pE a) (i := i) (by omega) (f_X12_laysDays_2 n) i zz_fuel (po_ord (pE a) i) m5 (Nat.le_refl _) (by omega) (fun j hj hn => by rw [(fr 9 (by simp)).1]; exact ho j (by omega)) (po_ordI (pE a) i).1 (fun j hj => ⟨(rows j (by omega)).2.1, by have := (pE_b (pv_inD hv (show j < pN a by omega))).2; omega⟩)
      rw [e6']
      have fr6 : pq_fr [5, 6, 7, 8, 9, 10, 11] m m6 := pq_frT (pq_frW fr (by simp <;> omega)) (pq_frW f6 (by simp))
      obtain ⟨m', z1, z2, z3⟩ := ih (i + 1) n m6 (by omega) (by omega) (by rw [(fr6 1 (by simp)).1]; exact hm) (fun j hj => by
        unfold pr_row
        rw [(f6 7 (by simp)).1, (f6 8 (by simp)).1, (f6 10 (by simp)).1, (f6 11 (by simp)).1]
        exact rows j hj) (fun j hj => g6 j (by omega))
      exact ⟨m', z1, pq_frT fr6 z2, z3⟩
    have e4 : m.1 1 (24 + i) = nI (pK a i) := by rw [hm _ (by omega)]; exact hvi.1.1
    have b24 := hvi.1.2
    rw [f_X12_laysDays_2, h5, if_neg (nI_ge (by omega) (by omega)), l24, nI_add, pq_ixE (by omega) (by decide), nI_clamp (by omega), e4]
    by_cases c : pK a i = 1
    · rw [if_pos (by rw [c]; rfl), l32, nI_add, pq_ixE (by omega) (by decide), nI_clamp (by omega)]
      have e5 : m.1 1 (32 + i) = nI (pv_n a (32 + i)) := by rw [hm _ (by omega)]; exact hvi.2.1.1
      have b32 := hvi.2.1.2
      obtain ⟨m1, z1, z2⟩ := pr_off (d := pv_n a (32 + i)) hm hv (by omega)
      rw [e5, z1, pq_bnd2]
      have hs : pS a i = pd_off a (pv_n a (32 + i)) := by unfold pS; rw [if_pos c]
      rw [← hs]
      exact key m1 z2
    · have l1 : (1 : Int32) = nI 1 := rfl
      have c' : ¬ nI (pK a i) = 1 := by
        rw [l1, nI_eq (by unfold pK; omega) (by decide)]
        exact c
      rw [if_neg c']
      have hs : pS a i = 0 := by unfold pS; rw [if_neg c]
      have := key m (pq_fr0 m)
      rw [hs] at this
      exact this
theorem pr_laysDays {a : Nat → Int32} (hv : pv_D a) {m : zz_Mem} (hm : pv_ag (m.1 1) a) : ∃ m', f_X12_laysDays m = some m' ∧ pq_fr [5, 6, 7, 8, 9, 10, 11] m m' ∧ pr_sched m' a := by
  have hN := (pN_b hv).1
  have hfu : zz_fuel = 5000 := rfl
  obtain ⟨m', e, f, s⟩ := pr_days hv (pN a) 0 zz_fuel m (by omega) (by omega) hm (fun j hj => absurd hj (Nat.not_lt_zero _)) (fun j hj => absurd hj (Nat.not_lt_zero _))
  rw [nI_0] at e
  exact ⟨m', e, f, s⟩
