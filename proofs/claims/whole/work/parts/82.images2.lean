/-! ===== 82: image, restore ===== -/
theorem pI_cP {m m' : zz_Mem} {a st : Nat → Int32} (h : pI_c m a st) (f : ∀ k, k < 99 → m'.1 k = m.1 k) : pI_c m' a st := by
  obtain ⟨h1, h2, h3, h4, h5, h6, h7⟩ := h
  refine ⟨?_, ?_, ?_, ?_, ?_, ?_, ?_⟩
  · unfold pc_plan pc_law at h1 ⊢
    rw [f 2 (by omega), f (2 + 1) (by omega), f (2 + 2) (by omega), f (2 + 3) (by omega), f (2 + 4) (by omega), f (2 + 5) (by omega), f (2 + 6) (by omega), f (2 + 7) (by omega), f (2 + 8) (by omega)]
    exact h1
  · unfold pc_stand at h2 ⊢; rw [f 13 (by omega), f (13 + 1) (by omega), f (13 + 2) (by omega)]; exact h2
  · unfold pc_known at h3 ⊢; rw [f 82 (by omega)]; exact h3
  · unfold pc_sched pc_row pc_pils pc_made at h4 ⊢
    rw [f 72 (by omega), f 73 (by omega), f 74 (by omega), f 75 (by omega), f 76 (by omega), f 77 (by omega), f 79 (by omega), f 80 (by omega)]
    exact h4
  · unfold pc_fb at h5 ⊢; rw [f (83 + 2) (by omega)]; exact h5
  · unfold pc_fb at h6 ⊢; rw [f (88 + 2) (by omega)]; exact h6
  · unfold pc_now pc_cv pc_cnt at h7 ⊢; rw [f 0 (by omega), f (83 + 1) (by omega), f (83 + 2) (by omega)]; exact h7
/-- an image made: at cells o on -/
theorem pi_made {n n' : Nat} {μ μ0 m' ν ν' : zz_Mem} {a : Nat → Int32} (hv : pv_D a) (hS : pv_S a (pr_st ν)) (hc : pI_c μ a (pr_st ν)) (hr : pI_r ν a) (hx : pI_x n μ ν a) {i o : Nat} (hi : i < 2) (ho : (o = 107 ∧ 121 ≤ n') ∨ (o = 121 ∧ 135 ≤ n')) (hn : n ≤ n')
    (h0 : ∀ k, (k < o ∨ o + 13 < k) → μ0.1 k = μ.1 k ∧ μ0.2.1 k = μ.2.1 k) (h30 : μ0.2.2 30 = μ.2.2 30) (h32 : ∀ j, j ≠ i → μ0.2.2 32 j = μ.2.2 32 j) (h32i : μ0.2.2 32 i = some o) (hrf : pX_refs n' μ0)
    (hoth : ∀ j o', j < 2 → j ≠ i → μ.2.2 32 j = some o' → o' ≠ o)
    (e1 : ∀ k, (k < o ∨ o + 13 < k ∨ k = o + 9 ∨ k = o + 10) → m'.1 k = μ0.1 k ∧ m'.2.1 k = μ0.2.1 k ∧ m'.2.2 k = μ0.2.2 k) (e2 : m'.2 = μ0.2) (e3 : pc_plan m' o a) (e4 : pc_stand m' (o + 11) (pN a) (pF a) (pr_st ν))
    (f2 : pq_fr [1, 2] ν ν') (f3 : ν'.2 = ν.2) (f4 : ν'.1 2 i = 1) (f5 : ∀ j, j ≠ i → ν'.1 2 j = ν.1 2 j) (f6 : ∀ k, k < 1177 → ν'.1 1 (1177 * (i + 1) + k) = ν.1 1 k) (f7 : ∀ j, (j < 1177 * (i + 1) ∨ 1177 * (i + 1) + 1177 ≤ j) → ν'.1 1 j = ν.1 1 j) : pI n' m' ν' := by
  obtain ⟨x1, x2, x3, x4, x5, x6⟩ := hx
  have est : ∀ k, k < 19 → pr_st ν' k = pr_st ν k := fun k hk => f7 _ (by omega)
  have ag : pv_ag (ν'.1 1) a := fun j hj => by rw [f7 j (by omega)]; exact hr.1 j hj
  have ec : ∀ k, k < 107 → m'.1 k = μ.1 k ∧ m'.2.1 k = μ.2.1 k := fun k hk => ⟨by rw [(e1 k (by omega)).1, (h0 k (by omega)).1], by rw [(e1 k (by omega)).2.1, (h0 k (by omega)).2]⟩
  have gi : pv_ag (pr_img ν' i) a := fun j hj => by show ν'.1 1 (1177 * (i + 1) + j) = _; rw [f6 j (by omega)]; exact hr.1 j hj
  have esi : ∀ k, k < 19 → pr_img ν' i (66 + k) = pr_st ν k := fun k hk => by show ν'.1 1 (1177 * (i + 1) + (66 + k)) = _; rw [f6 _ (by omega)]; rfl
  refine ⟨a, hv, pv_SC hv hS est, pI_cS hv (pI_cP hc (fun k hk => (ec k (by omega)).1)) est, ⟨ag, pr_schedF hr.2 f2 (fun j g1 g2 => by simp <;> omega)⟩, pX_pastF hv x1 (fun k k1 k2 => (ec k (by omega)).1) (fun j j1 j2 => f7 j (by omega)), fun t ht => ?_, fun j hj => ?_, ?_, ?_, ?_⟩
  · have := x2 t ht
    unfold pX_tray at this ⊢
    rw [(ec (99 + 2 * t) (by omega)).1, (ec (99 + 2 * t + 1) (by omega)).2, (f2 23 (by simp)).1, (f2 24 (by simp)).1, f3]
    exact this
  · by_cases c : j = i
    · subst c
      refine Or.inr ⟨o, by rw [e2]; exact h32i, f4, ho, pc_planA hv gi e3, ?_, pv_agD gi hv, ?_⟩
      · rw [pN_A gi, pF_A gi]; exact pc_standC e4 (pN_b hv).1 (pF_b hv).1 esi
      · have hS2 := pv_SC hv hS esi
        refine ⟨fun i' hi' => ?_, fun k hk => ?_⟩
        · rw [pN_A gi] at hi'; exact hS2.1 i' hi'
        · rw [pF_A gi] at hk; exact hS2.2 k hk
    · refine pX_imgC (x3 j hj) hn (by rw [e2]; exact h32 j c) (f5 j c) (fun o' ho' k k1 k2 k3 k4 => ?_) (fun k hk => ?_)
      · have hne := hoth j o' hj c ho'
        have hoo : o' = 107 ∨ o' = 121 := by
          rcases x3 j hj with ⟨q, -⟩ | ⟨o'', q1, q2, q3, -⟩
          · rw [q] at ho'; cases ho'
          · rw [q1] at ho'
            have := Option.some.inj ho'
            omega
        rw [(e1 k (by omega)).1, (h0 k (by omega)).1]
      · show ν'.1 1 (1177 * (j + 1) + k) = ν.1 1 (1177 * (j + 1) + k)
        have : (i = 0 ∧ j = 1) ∨ (i = 1 ∧ j = 0) := by omega
        rcases this with ⟨rfl, rfl⟩ | ⟨rfl, rfl⟩
        · exact f7 _ (by omega)
        · exact f7 _ (by omega)
  · obtain ⟨len, l1, l2, l3, l4⟩ := x4
    refine ⟨len, l1, by rw [(ec 0 (by omega)).1]; exact l2, by rw [(f2 0 (by simp)).1]; exact l3, ?_⟩
    rw [(ec 1 (by omega)).1, (f2 3 (by simp)).1]
    exact l4
  · rw [(ec 0 (by omega)).1, (f2 0 (by simp)).1]; exact x5
  · unfold pX_refs at hrf ⊢; rw [e2]; exact hrf
theorem op_image : zL_op40 pI := by
  intro n μ ν p1 ⟨a, hv, hS, hc, hr, hx⟩
  have k0 := pr_t0 hr 0 (by decide) 0
  have hx1 := pI_xK hx (pK_c0 μ) k0.1
  have hS1 : pv_S a (pr_st (zz_setI ν 0 0 0)) := by rw [k0.2.2]; exact hS
  have hc1 : pI_c μ a (pr_st (zz_setI ν 0 0 0)) := by rw [k0.2.2]; exact hc
  have hr1 := k0.2.1
  have fin := pI_mk hv hS hx hc (pK_c0 μ) k0.2.1 k0.1
  unfold f_X11_imageA f_X12_image
  rw [pq_letM]
  generalize zz_setI ν 0 0 0 = ν1 at *
  have a0 : (0 : Int64).toInt = 0 := rfl
  have a1 : (1 : Int64).toInt = 1 := rfl
  have l2 : (2 : Int32) = nI 2 := rfl
  rcases pi_within p1.toInt64 0 1 with ⟨g1, g2, g3⟩ | ⟨g1, g3⟩
  · rw [Int32.toInt_toInt64, a0] at g1
    rw [Int32.toInt_toInt64, a1] at g2
    obtain ⟨i, i1, i2, i3⟩ := pi_to (x := p1) (by omega)
    have hi : i < 2 := by omega
    obtain ⟨ν2, z1, z2, z3, z4, z5, z6, z7⟩ := pr_image (m := ν1) hi
    have n1 : ¬ p1 < 0 := by rw [pi_neg]; omega
    have n2 : p1 < 2 := by rw [l2, pi_nlt (by decide)]; omega
    rw [g3, pq_bndS, if_neg (show ¬ (1 : Int32) = 0 by decide), if_neg n1, if_pos n2, i1, z1, pq_ixE (by omega) (by decide), nI_clamp (by omega)]
    obtain ⟨x1, x2, x3, x4, x5, x6⟩ := hx1
    obtain ⟨y1, y2, y3, y4, y5, y6, y7⟩ := x6
    have hoth0 : ∀ j o', j < 2 → j ≠ i → μ.2.2 32 j = some o' → ∀ o, μ.2.2 32 i = some o → o' ≠ o := fun j o' hj hne ho' o ho e => by
      have : (i = 0 ∧ j = 1) ∨ (i = 1 ∧ j = 0) := by omega
      rcases this with ⟨rfl, rfl⟩ | ⟨rfl, rfl⟩
      · rcases y3 with q | q
        · rw [q] at ho; cases ho
        · exact q (by rw [ho, ho', e])
      · rcases y3 with q | q
        · rw [q] at ho'; cases ho'
        · exact q (by rw [ho, ho', e])
    cases hcase : μ.2.2 32 i with
    | some o =>
      left
      have hoo : (o = 107 ∧ 121 ≤ n) ∨ (o = 121 ∧ 135 ≤ n) := by
        rcases x3 i hi with ⟨q, -⟩ | ⟨o'', q1, q2, q3, -⟩
        · rw [q] at hcase; cases hcase
        · rw [q1] at hcase
          have := Option.some.inj hcase
          omega
      obtain ⟨m', e0, e1, e2, e3, e4⟩ := pc_copyP o 2 μ (by omega)
      refine ⟨0, m', ν2, ?_, rfl, ?_⟩
      · show zz_ix (nI i) 2 (zz_bndR (f_X6_copyFrom o 2 μ) fun m1 => some (0, m1)) = _
        rw [pq_ixE (by omega) (by decide), e0, pq_bndS]
      · exact pi_made hv hS1 hc1 hr1 ⟨x1, x2, x3, x4, x5, ⟨y1, y2, y3, y4, y5, y6, y7⟩⟩ hi hoo (Nat.le_refl _) (fun _ _ => ⟨rfl, rfl⟩) rfl (fun _ _ => rfl) hcase ⟨y1, y2, y3, y4, y5, y6, y7⟩ (fun j o' hj hne ho' => hoth0 j o' hj hne ho' o hcase) e1 e2 (e3 a hv hc1.1) (e4 _ _ _ (pN_b hv).1 (pF_b hv).1 hc1.2.1) z2 z3 z4 z5 z6 z7
    | none =>
      right
      have hn : n = 107 ∨ n = 121 := by
        rcases y1 with q | q | q
        · exact Or.inl q
        · exact Or.inr q
        · exfalso
          obtain ⟨q1, q2⟩ := y7 q
          have : i = 0 ∨ i = 1 := by omega
          rcases this with rfl | rfl
          · exact q1 hcase
          · exact q2 hcase
      obtain ⟨m', e0, e1, e2, e3, e4⟩ := pc_copyP n 2 (zI_mem μ n i) (by omega)
      have cellE : ∀ k, (k < n ∨ n + 13 < k) → (zI_mem μ n i).1 k = μ.1 k ∧ (zI_mem μ n i).2.1 k = μ.2.1 k := fun k hk => by
        unfold zI_mem
        exact ⟨if_neg (by omega), if_neg (by omega)⟩
      have refE : ∀ k, k < n → k ≠ 32 → (zI_mem μ n i).2.2 k = μ.2.2 k := fun k hk hk2 => by
        unfold zI_mem
        show (if n ≤ k ∧ k < n + 14 then _ else if k = 32 then _ else μ.2.2 k) = _
        rw [if_neg (by omega), if_neg hk2]
      have ref32 : (zI_mem μ n i).2.2 32 = va_up (μ.2.2 32) i (some n) := by
        unfold zI_mem
        show (if n ≤ 32 ∧ 32 < n + 14 then _ else if 32 = 32 then _ else μ.2.2 32) = _
        rw [if_neg (by omega), if_pos rfl]
      have hpl : pc_plan (zI_mem μ n i) 2 a := by
        have h1 := hc1.1
        unfold pc_plan pc_law at h1 ⊢
        rw [(cellE 2 (by omega)).1, (cellE (2 + 1) (by omega)).1, (cellE (2 + 2) (by omega)).1, (cellE (2 + 3) (by omega)).1, (cellE (2 + 4) (by omega)).1, (cellE (2 + 5) (by omega)).1, (cellE (2 + 6) (by omega)).1, (cellE (2 + 7) (by omega)).1, (cellE (2 + 8) (by omega)).1]
        exact h1
      have hst : pc_stand (zI_mem μ n i) (2 + 11) (pN a) (pF a) (pr_st ν1) := by
        have h2 := hc1.2.1
        unfold pc_stand at h2 ⊢
        rw [(cellE (2 + 11) (by omega)).1, (cellE (2 + 11 + 1) (by omega)).1, (cellE (2 + 11 + 2) (by omega)).1]
        exact h2
      refine ⟨hn, by rw [← i1]; exact n1, by rw [← i1]; exact n2, rfl, hi, m', ν2, e0, rfl, ?_⟩
      refine pi_made hv hS1 hc1 hr1 ⟨x1, x2, x3, x4, x5, ⟨y1, y2, y3, y4, y5, y6, y7⟩⟩ hi (o := n) (by omega) (by omega) cellE (refE 30 (by omega) (by omega)) (fun j hj => by rw [ref32, va_up, if_neg hj]) (by rw [ref32, va_up, if_pos rfl]) ?_ (fun j o' hj hne ho' => ?_) e1 e2 (e3 a hv hpl) (e4 _ _ _ (pN_b hv).1 (pF_b hv).1 hst) z2 z3 z4 z5 z6 z7
      · unfold pX_refs
        rw [ref32, refE 30 (by omega) (by omega)]
        have hlt : ∀ j, j < 2 → j ≠ i → μ.2.2 32 j ≠ some n := fun j hj hne z => by
          rcases x3 j hj with ⟨q, -⟩ | ⟨o'', q1, q2, q3, -⟩
          · rw [q] at z; cases z
          · rw [q1] at z
            have := Option.some.inj z
            omega
        refine ⟨by omega, y2, ?_, fun j hj => by rw [va_up, if_neg (by omega)]; exact y4 j hj, fun q => by omega, fun q => ?_, fun q => ?_⟩
        · right
          have : i = 0 ∨ i = 1 := by omega
          rcases this with rfl | rfl
          · rw [va_up, va_up, if_pos rfl, if_neg (by decide)]; exact fun z => hlt 1 (by decide) (by decide) z.symm
          · rw [va_up, va_up, if_neg (by decide), if_pos rfl]; exact hlt 0 (by decide) (by decide)
        · obtain ⟨q1, q2⟩ := y5 (by omega)
          have : i = 0 ∨ i = 1 := by omega
          rcases this with rfl | rfl
          · right; rw [va_up, va_up, if_pos rfl, if_neg (by decide)]; exact ⟨fun z => (by cases z), q2⟩
          · left; rw [va_up, va_up, if_neg (by decide), if_pos rfl]; exact ⟨q1, fun z => (by cases z)⟩
        · have h := y6 (by omega)
          have : i = 0 ∨ i = 1 := by omega
          rcases this with rfl | rfl
          · rw [va_up, va_up, if_pos rfl, if_neg (by decide)]
            refine ⟨fun z => (by cases z), ?_⟩
            rcases h with ⟨-, q⟩ | ⟨q, -⟩
            · exact q
            · exact absurd hcase q
          · rw [va_up, va_up, if_neg (by decide), if_pos rfl]
            refine ⟨?_, fun z => (by cases z)⟩
            rcases h with ⟨-, q⟩ | ⟨q, -⟩
            · exact absurd hcase q
            · exact q
      · rcases x3 j hj with ⟨q, -⟩ | ⟨o'', q1, q2, q3, -⟩
        · rw [q] at ho'; cases ho'
        · rw [q1] at ho'
          have := Option.some.inj ho'
          omega
  · rw [Int32.toInt_toInt64, a0, a1] at g1
    left
    rw [g3, pq_bndS, if_pos rfl]
    by_cases c : p1 < 0
    · rw [if_pos c]; exact ⟨_, _, _, rfl, rfl, fin⟩
    · rw [if_neg c]; rw [pi_neg] at c; rw [if_neg (show ¬ p1 < 2 by rw [l2, pi_nlt (by decide)]; omega)]; exact ⟨_, _, _, rfl, rfl, fin⟩
/-- a desk laid anew -/
theorem pi_lay {n : Nat} {m1 ν1 : zz_Mem} {a : Nat → Int32} (hv : pv_D a) (hp : pc_plan m1 2 a) (hst : pc_stand m1 13 (pN a) (pF a) (pr_st ν1)) (hS : pv_S a (pr_st ν1)) (h83 : pc_fb m1 83) (h88 : pc_fb m1 88) (hag : pv_ag (ν1.1 1) a) (hx : pI_x n m1 ν1 a) : ∃ m2 ν2, f_X8_lay m1 = some m2 ∧ f_X12_laysDays ν1 = some ν2 ∧ pI n (zz_setI m2 0 18 1) ν2 ∧ m2.1 2 = m1.1 2 ∧ ν2.1 1 = ν1.1 1 := by
  obtain ⟨m2, e1, f1, k1, s1⟩ := pc_lay hv hp
  obtain ⟨ν2, e2, f2, s2⟩ := pr_laysDays hv hag
  have er : ν2.1 1 = ν1.1 1 := (f2 1 (by simp)).1
  have es : pr_st ν2 = pr_st ν1 := by unfold pr_st; rw [er]
  have kc : pK_c m1 m2 := pK_cF f1 (by simp <;> omega)
  have kr : pK_r ν1 ν2 := pK_rF f2 (by simp) (by rw [(f2 0 (by simp)).1]) (by rw [(f2 0 (by simp)).1]) (by rw [(f2 0 (by simp)).1])
  refine ⟨m2, ν2, e1, e2, ⟨a, hv, by rw [es]; exact hS, ?_, ⟨by rw [er]; exact hag, s2⟩, pI_xK hx (pK_cT kc (pK_c18 m2 (Or.inl rfl) 1)) kr⟩, (f1 2 (by simp)).1, er⟩
  rw [es]
  have f3 : pq_fr [0, 11, 12, 82, 72, 73, 74, 75, 76, 77, 78, 79, 80] m1 (zz_setI m2 0 18 1) := pq_frI (pq_frW f1 (by simp <;> omega)) _ _ (by simp)
  have f4 : pq_fr [0] m2 (zz_setI m2 0 18 1) := pq_frI (pq_fr0 m2) _ _ (by simp)
  refine ⟨pc_planF hp f3 (fun j hj => by simp <;> omega), pc_standF hst f3 (by simp) (by simp) (by simp), ?_, pc_schedF s1 f4 (fun j a1 a2 => by simp <;> omega), ?_, ?_, Or.inl qx_isE⟩
  · unfold pc_known; rw [(f4 82 (by simp)).1]; exact k1
  · unfold pc_fb; rw [(f3 (83 + 2) (by simp)).1]; exact h83
  · unfold pc_fb; rw [(f3 (88 + 2) (by simp)).1]; exact h88
theorem pr_restore {m : zz_Mem} {i : Nat} (hi : i < 2) : ∃ m1, f_X12_restore_32 zz_fuel (nI i) 0 m = f_X12_restore_65 m1 ∧ pq_fr [1] m m1 ∧ (∀ k, k < 1177 → m1.1 1 k = pr_img m i k) ∧ ∀ j, 1177 ≤ j → m1.1 1 j = m.1 1 j := by
  have hfu : zz_fuel = 5000 := rfl
  have l : (1177 : Int32) = nI 1177 := rfl
  have loop : ∀ (r k fuel : Nat) (m1 : zz_Mem), k + r = 1177 → r < fuel → pq_fr [1] m m1 → (∀ j, j < k → m1.1 1 j = pr_img m i j) → (∀ j, 1177 ≤ j → m1.1 1 j = m.1 1 j) → ∃ m', f_X12_restore_32 fuel (nI i) (nI k) m1 = f_X12_restore_65 m' ∧ pq_fr [1] m m' ∧ (∀ k, k < 1177 → m'.1 1 k = pr_img m i k) ∧ ∀ j, 1177 ≤ j → m'.1 1 j = m.1 1 j := by
    intro r
    induction r with
    | zero =>
      intro k fuel m1 h1 h2 f h3 h4
      obtain ⟨fu, rfl⟩ : ∃ n, fuel = n + 1 := ⟨fuel - 1, by omega⟩
      rw [f_X12_restore_32, l, if_pos (nI_le (by omega) (by omega))]
      exact ⟨m1, rfl, f, fun j hj => h3 j (by omega), h4⟩
    | succ r ih =>
      intro k fuel m1 h1 h2 f h3 h4
      obtain ⟨fu, rfl⟩ : ∃ n, fuel = n + 1 := ⟨fuel - 1, by omega⟩
      rw [f_X12_restore_32, l, if_neg (nI_ge (by omega) (by omega)), nI_1, pk_mul, nI_add, pq_ixE (by omega) (by decide), pq_ixE (by omega) (by decide), nI_clamp (by omega), nI_clamp (by omega), pq_letM, pq_letI, nI_1, h4 _ (by omega)]
      exact ih (k + 1) fu _ (by omega) (by omega) (pq_frI f _ _ (by simp)) (fun j hj => by
        by_cases c : j = k
        · rw [c, qx_isE]; rfl
        · rw [qx_isN c]; exact h3 j (by omega)) (fun j hj => by rw [qx_isN (by omega)]; exact h4 j hj)
  have := loop 1177 0 zz_fuel m (by omega) (by omega) (pq_fr0 m) (fun j hj => absurd hj (Nat.not_lt_zero _)) (fun _ _ => rfl)
  rw [nI_0] at this
  exact this
theorem op_restore : zL_op41 pI := by
  intro n μ ν p1 ⟨a, hv, hS, hc, hr, hx⟩
  have k0 := pr_t0 hr 0 (by decide) 0
  have hx1 := pI_xK hx (pK_c0 μ) k0.1
  have fin := pI_mk hv hS hx hc (pK_c0 μ) k0.2.1 k0.1
  unfold f_X11_restore f_X12_restore
  rw [pq_letM]
  generalize zz_setI ν 0 0 0 = ν1 at *
  have a0 : (0 : Int64).toInt = 0 := rfl
  have a1 : (1 : Int64).toInt = 1 := rfl
  have l2 : (2 : Int32) = nI 2 := rfl
  rcases pi_within p1.toInt64 0 1 with ⟨g1, g2, g3⟩ | ⟨g1, g3⟩
  · rw [Int32.toInt_toInt64, a0] at g1
    rw [Int32.toInt_toInt64, a1] at g2
    obtain ⟨i, i1, i2, i3⟩ := pi_to (x := p1) (by omega)
    have hi : i < 2 := by omega
    have n1 : ¬ p1 < 0 := by rw [pi_neg]; omega
    have n2 : p1 < 2 := by rw [l2, pi_nlt (by decide)]; omega
    rw [g3, pq_bndS, if_neg (show ¬ (1 : Int32) = 0 by decide), if_neg n1, if_pos n2, i1, pq_ixE (by omega) (by decide), nI_clamp (by omega), pq_ixE (by omega) (by decide)]
    obtain ⟨x1, x2, x3, x4, x5, x6⟩ := hx1
    rcases x3 i hi with ⟨q1, q2⟩ | ⟨o, q1, q2, q3, q4, q5, q6, q7⟩
    · rw [q1, q2, if_pos rfl]
      exact ⟨_, _, _, rfl, rfl, fin⟩
    · rw [q1, q2, if_neg (by decide)]
      obtain ⟨m', e0, e1, e2, e3, e4⟩ := pc_copyP 2 o μ (by omega)
      obtain ⟨ν2, z1, z2, z3, z4⟩ := pr_restore (m := ν1) hi
      rw [z1]
      unfold f_X12_restore_65
      rw [pq_letM]
      show ∃ r μ' ν', (zz_ix (nI i) 2 (zz_bndR (f_X6_copyFrom 2 o μ) fun m1 => zz_bndR (f_X5_clear m1) fun m2 => zz_bndR (f_X8_lay m2) fun m3 => zz_letM (zz_setI m3 0 18 1) fun m4 => some (0, m4))) = _ ∧ _
      unfold f_X5_clear
      rw [pq_ixE (by omega) (by decide), e0, pq_bndS, pq_letM, pq_bndS]
      have ec : ∀ k, ¬ (2 ≤ k ∧ k ≤ 15 ∧ k ≠ 11 ∧ k ≠ 12) → m'.1 k = μ.1 k := fun k hk => (e1 k (by omega)).1
      have hst : ∀ k, k < 19 → pr_st (zz_setI ν2 1 85 0) k = pr_img ν1 i (66 + k) := fun k hk => by
        show (zz_setI ν2 1 85 0).1 1 (66 + k) = _
        rw [qx_isN (by omega)]; exact z3 _ (by omega)
      have hkk : ∀ k, k < 99 ∨ 99 ≤ k → True := fun _ _ => trivial
      obtain ⟨m2, ν3, w1, w2, w3, w4, w5⟩ := pi_lay (n := n) (m1 := zz_setI m' 34 2 0) (ν1 := zz_setI ν2 1 85 0) (a := pr_img ν1 i) q6 (by
        have h := e3 _ q6 q4
        have f : pq_fr [34] m' (zz_setI m' 34 2 0) := pq_frI (pq_fr0 m') _ _ (by simp)
        exact pc_planF h f (fun j hj => by simp <;> omega)) (by
        have h := pc_standC (e4 _ _ _ (pN_b q6).1 (pF_b q6).1 q5) (pN_b q6).1 (pF_b q6).1 hst
        have f : pq_fr [34] m' (zz_setI m' 34 2 0) := pq_frI (pq_fr0 m') _ _ (by simp)
        exact pc_standF h f (by simp) (by simp) (by simp)) (pv_SC q6 q7 hst) (by
        obtain ⟨G, hG⟩ := hc.2.2.2.2.1
        exact ⟨G, fun j hj => by rw [pz_In _ _ _ (by decide), ec _ (by omega)]; exact hG j hj⟩) (by
        obtain ⟨G, hG⟩ := hc.2.2.2.2.2.1
        exact ⟨G, fun j hj => by rw [pz_In _ _ _ (by decide), ec _ (by omega)]; exact hG j hj⟩) (fun j hj => by rw [qx_isN (by omega)]; exact z3 j (by omega)) (by
        obtain ⟨s, nx, s1, s2, s3, s4, s5, s6⟩ := x1
        refine pI_x2 ⟨⟨s, nx, s1, s2, s3, s4, s5, s6⟩, x2, x3, x4, x5, x6⟩ ⟨0, nx, by omega, s2, qx_isE, qx_isE, by rw [qx_isN (by decide), ec _ (by omega)]; exact s5, fun j hj => absurd hj (Nat.not_lt_zero _)⟩ ⟨fun k hk => ⟨by rw [pz_In _ _ _ (by omega), ec k (by omega)], by rw [show (zz_setI m' 34 2 0).2.1 = m'.2.1 from rfl, e2]⟩, by rw [show (zz_setI m' 34 2 0).2.2 = m'.2.2 from rfl, e2], by rw [show (zz_setI m' 34 2 0).2.2 = m'.2.2 from rfl, e2], by rw [pz_In _ _ _ (by decide), ec 0 (by omega)], by rw [pz_In _ _ _ (by decide), ec 0 (by omega)], by rw [pz_In _ _ _ (by decide), ec 0 (by omega)]⟩ ⟨fun k hk => by rw [pz_In _ _ _ (by omega), (z2 k (by simp <;> omega)).1], (z2 25 (by simp)).2.1, by rw [pz_In _ _ _ (by decide), (z2 0 (by simp)).1], by rw [pz_In _ _ _ (by decide), (z2 0 (by simp)).1], by rw [pz_In _ _ _ (by decide), (z2 0 (by simp)).1], fun j hj => by rw [qx_isN (by omega)]; exact z4 j hj⟩)
      rw [w1, w2, pq_bndS, pq_bndS, pq_letM]
      exact ⟨_, _, _, rfl, rfl, w3⟩
  · rw [Int32.toInt_toInt64, a0, a1] at g1
    rw [g3, pq_bndS, if_pos rfl]
    by_cases c : p1 < 0
    · rw [if_pos c]; exact ⟨_, _, _, rfl, rfl, fin⟩
    · rw [if_neg c]; rw [pi_neg] at c; rw [if_neg (show ¬ p1 < 2 by rw [l2, pi_nlt (by decide)]; omega)]; exact ⟨_, _, _, rfl, rfl, fin⟩
