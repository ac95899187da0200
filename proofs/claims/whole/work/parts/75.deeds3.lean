/-! ===== 75: bump, shift, amount, undo ===== -/
theorem pj_start {μ ν : zz_Mem} {a : Nat → Int32} (hv : pv_D a) (hS : pv_S a (pr_st ν)) (hc : pI_c μ a (pr_st ν)) (hr : pI_r ν a) (o : Nat) (ho : o = 66 ∨ o = 69) : ∃ m1, f_X9_copyFrom o 13 μ = some m1 ∧ pq_fr [o, o + 1, o + 2] μ m1 ∧ pFc μ m1 ∧ pc_stand m1 o (pN a) (pF a) (pr_st ν) ∧ pJ a 13 m1 ν (pr_st ν) := by
  obtain ⟨m1, e1, f1, g1⟩ := pc_copy o 13 μ (by omega)
  refine ⟨m1, e1, f1, pFcF f1 (fun k hk => by simp at hk; omega), g1 _ _ _ (pN_b hv).1 (pF_b hv).1 hc.2.1, pc_planF hc.1 f1 (fun j hj => by simp <;> omega), pc_standF hc.2.1 f1 (by simp <;> omega) (by simp <;> omega) (by simp <;> omega), hr.1, rfl, hS⟩
theorem pJ_r {a : Nat → Int32} {o : Nat} {m ν ν' : zz_Mem} {st : Nat → Int32} (h : pJ a o m ν st) (f : ν'.1 1 = ν.1 1) : pJ a o m ν' st := by
  obtain ⟨h1, h2, h3, h4, h5⟩ := h
  refine ⟨h1, h2, by rw [f]; exact h3, ?_, h5⟩
  rw [← h4]; unfold pr_st; rw [f]
theorem pj_keep13 {μ m : zz_Mem} {o : Nat} (f : pq_fr [o, o + 1, o + 2] μ m) (ho : 15 < o) : m.1 13 = μ.1 13 ∧ m.1 14 = μ.1 14 ∧ m.1 15 = μ.1 15 := ⟨(f 13 (by simp <;> omega)).1, (f 14 (by simp <;> omega)).1, (f 15 (by simp <;> omega)).1⟩
theorem op_bump : zL_op10 pI := by
  intro n μ ν p1 p2 ⟨a, hv, hS, hc, hr, hx⟩
  obtain ⟨m1, e1, f1, fc1, h66, hJ⟩ := pj_start hv hS hc hr 66 (Or.inl rfl)
  have fr0 : pFr ν (zz_setI ν 0 0 0) := pFrI ν (by decide) 0
  have hJ1 := pJ_r (ν' := zz_setI ν 0 0 0) hJ rfl
  unfold f_X11_bump f_X12_bump
  rw [pq_letM, e1, pq_bndS]
  generalize zz_setI ν 0 0 0 = ν1 at *
  rcases pj_bump hv hJ1 p1 p2 with ⟨i, i1, i2, i3, i4, i5, i6, i7⟩ | ⟨w, w0, w1, w2⟩
  · obtain ⟨ν2, e2, f2, g2⟩ := pr_stores ν1
    have l66 : (66 : Int32) = nI 66 := rfl
    have r1 : ν2.1 1 = ν1.1 1 := (f2 1 (by simp)).1
    have es1 : pr_st ν1 = pr_st ν := hJ1.2.2.2.1
    have hJ2 := pJ_r (ν' := ν2) hJ1 r1
    obtain ⟨t1, t2⟩ := pj_setR (Or.inl rfl) hJ2 i2 i4 i5
    obtain ⟨u1, u2⟩ := pFcJ (Or.inl rfl) t2
    have e66 : ν2.1 1 (66 + i) = pr_st ν i := by rw [← es1, r1]; rfl
    rw [i6, i7, pq_bnd2, pq_bndS, if_pos rfl, if_pos rfl, e2, pq_bndS, i3, l66, nI_add, pq_ixE (by omega) (by decide), pq_ixE (by omega) (by decide), nI_clamp (by omega), nI_clamp (by omega), e66, pq_letM]
    obtain ⟨μ', ν', z1, z2, z3, z4, z5, z6⟩ := pj_done hv hS hc hr hx (pFcT fc1 u1) (pFrT fr0 (pFrT (pFr17 f2) u2)) t1 (by
      unfold pc_stand at h66 ⊢
      rw [pz_In _ _ _ (by decide), pz_In _ _ _ (by decide), pz_In _ _ _ (by decide)]; exact h66) (fun k hk => by rw [pz_In _ _ _ (by decide), g2 k hk, es1]) 0 (by omega)
    have hN8 := (pN_b hv).1
    have hin : f_X6_hasInput μ' (nI i) = some 1 := by
      have h5' : μ'.1 2 5 = nI (pN a) := by rw [z4 2 (by omega), pz_In _ _ _ (by decide), (f1 2 (by simp)).1]; exact hc.1.2.2.2.2.1.trans (pN_b hv).2
      have l8 : (8 : Int32) = nI 8 := rfl
      unfold f_X6_hasInput
      rw [h5', l8, if_neg (nI_pos (by omega)), if_neg (nI_ge (by omega) (by omega)), if_neg (nI_ge (by omega) (by omega))]
    have z1' : f_X11_remember 1 (zz_setI m1 (13 + 1) i (pr_st ν i + p2)) = some μ' := z1
    rw [z1', z2, pq_bndS, pq_bndS, hin, pq_bndS, if_neg (show ¬ (1 : Int32) = 0 by decide), pq_ixE (by omega) (by decide), pq_ixE (by omega) (by decide), z6 (66 + i) (by omega), qx_isE, z4 14 (by omega), qx_isE]
    exact ⟨_, _, _, rfl, rfl, z3⟩
  · rw [w1, w2, pq_bnd2, pq_bndS, if_neg w0, if_neg w0]
    exact ⟨_, _, _, rfl, rfl, pj_none hv hS hc hr hx fc1 fr0 (pj_keep13 f1 (by decide)) (by rw [(f1 0 (by simp)).1]) (fun k hk => congrFun hJ1.2.2.2.1 k)⟩
theorem op_shift : zL_op11 pI := by
  intro n μ ν p1 ⟨a, hv, hS, hc, hr, hx⟩
  obtain ⟨m1, e1, f1, fc1, h66, hJ⟩ := pj_start hv hS hc hr 66 (Or.inl rfl)
  have fr0 : pFr ν (zz_setI ν 0 0 0) := pFrI ν (by decide) 0
  have hJ1 := pJ_r (ν' := zz_setI ν 0 0 0) hJ rfl
  unfold f_X11_shift f_X12_shift f_X6_doShift
  rw [pq_letM, e1, pq_bndS]
  generalize zz_setI ν 0 0 0 = ν1 at *
  have a0 : (0 : Int64).toInt = 0 := rfl
  have a9 : (9 : Int64).toInt = 9 := rfl
  have l10 : (10 : Int32) = nI 10 := rfl
  rw [l10]
  rcases pi_within p1.toInt64 0 9 with ⟨g1, g2, g3⟩ | ⟨g1, g3⟩
  · rw [Int32.toInt_toInt64, a0] at g1
    rw [Int32.toInt_toInt64, a9] at g2
    obtain ⟨ν2, e2, f2, q2⟩ := pr_stores ν1
    have r1 : ν2.1 1 = ν1.1 1 := (f2 1 (by simp)).1
    have es1 : pr_st ν1 = pr_st ν := hJ1.2.2.2.1
    have hJ2 := pJ_r (ν' := ν2) hJ1 r1
    obtain ⟨t1, t2⟩ := pj_setS hv (Or.inl rfl) hJ2 p1
    obtain ⟨u1, u2⟩ := pFcJ (Or.inl rfl) t2
    rw [if_neg (by rw [pi_neg]; omega), if_pos (show p1 < nI 10 by rw [pi_nlt (by decide)]; omega), pq_letM, pq_bnd2, if_pos rfl, g3, pq_bndS, if_neg (show ¬ (1 : Int32) = 0 by decide), e2, pq_bndS, pq_letM]
    obtain ⟨μ', ν', z1, z2, z3, z4, z5, z6⟩ := pj_done hv hS hc hr hx (pFcT fc1 u1) (pFrT fr0 (pFrT (pFr17 f2) u2)) t1 (by
      unfold pc_stand at h66 ⊢
      rw [pz_In _ _ _ (by decide), pz_In _ _ _ (by decide), pz_In _ _ _ (by decide)]; exact h66) (fun k hk => by rw [pz_In _ _ _ (by decide), q2 k hk, es1]) 0 (by omega)
    have z1' : f_X11_remember 1 (zz_setI m1 13 2 p1) = some μ' := z1
    rw [z1', z2, pq_bndS, pq_bndS, z4 66 (by omega), pz_In _ _ _ (by decide), h66.1, (z5 17 (by simp)).1, pz_In _ _ _ (by decide), q2 8 (by omega), es1]
    exact ⟨_, _, _, rfl, rfl, z3⟩
  · rw [Int32.toInt_toInt64, a0, a9] at g1
    rw [g3, pq_bndS, if_pos rfl]
    have fin : pI n m1 ν1 := pj_none hv hS hc hr hx fc1 fr0 (pj_keep13 f1 (by decide)) (by rw [(f1 0 (by simp)).1]) (fun k hk => congrFun hJ1.2.2.2.1 k)
    by_cases c : p1 < 0
    · rw [if_pos c, pq_bnd2, if_neg (show ¬ (1 : Int32) = 0 by decide)]; exact ⟨_, _, _, rfl, rfl, fin⟩
    · rw [if_neg c]
      rw [pi_neg] at c
      rw [if_neg (show ¬ p1 < nI 10 by rw [pi_nlt (by decide)]; omega), pq_bnd2, if_neg (show ¬ (1 : Int32) = 0 by decide)]; exact ⟨_, _, _, rfl, rfl, fin⟩
theorem op_amount : zL_op12 pI := by
  intro n μ ν p1 p2 ⟨a, hv, hS, hc, hr, hx⟩
  obtain ⟨m1, e1, f1, fc1, h66, hJ⟩ := pj_start hv hS hc hr 66 (Or.inl rfl)
  have fr0 : pFr ν (zz_setI ν 0 0 0) := pFrI ν (by decide) 0
  have hJ1 := pJ_r (ν' := zz_setI ν 0 0 0) hJ rfl
  unfold f_X11_amount f_X12_amount
  rw [pq_letM, e1, pq_bndS]
  generalize zz_setI ν 0 0 0 = ν1 at *
  rcases pj_amount hv hJ1 p1 p2 with ⟨i, i1, i2, i3, i9, i6, i7⟩ | ⟨w1, w2⟩
  · obtain ⟨ν2, e2, f2, g2⟩ := pr_stores ν1
    have l75 : (75 : Int32) = nI 75 := rfl
    have r1 : ν2.1 1 = ν1.1 1 := (f2 1 (by simp)).1
    have es1 : pr_st ν1 = pr_st ν := hJ1.2.2.2.1
    have hJ2 := pJ_r (ν' := ν2) hJ1 r1
    obtain ⟨t1, t2⟩ := pj_setA hv (Or.inl rfl) hJ2 i2 i9
    obtain ⟨u1, u2⟩ := pFcJ (Or.inl rfl) t2
    rw [i6, i7, pq_bnd2, pq_bndS, if_pos rfl, if_pos rfl, e2, pq_bndS, i3, l75, nI_add, pq_ixE (by omega) (by decide), nI_clamp (by omega), pq_letM]
    obtain ⟨μ', ν', z1, z2, z3, z4, z5, z6⟩ := pj_done hv hS hc hr hx (pFcT fc1 u1) (pFrT fr0 (pFrT (pFr17 f2) u2)) t1 (by
      unfold pc_stand at h66 ⊢
      rw [pz_In _ _ _ (by decide), pz_In _ _ _ (by decide), pz_In _ _ _ (by decide)]; exact h66) (fun k hk => by rw [pz_In _ _ _ (by decide), g2 k hk, es1]) 0 (by omega)
    have z1' : f_X11_remember 1 (zz_setI m1 (13 + 2) i p2) = some μ' := z1
    rw [z1', z2, pq_bndS, pq_bndS]
    exact ⟨_, _, _, rfl, rfl, z3⟩
  · rw [w1, w2, pq_bnd2, pq_bndS, if_neg (show ¬ (1 : Int32) = 0 by decide), if_neg (show ¬ (1 : Int32) = 0 by decide)]
    exact ⟨_, _, _, rfl, rfl, pj_none hv hS hc hr hx fc1 fr0 (pj_keep13 f1 (by decide)) (by rw [(f1 0 (by simp)).1]) (fun k hk => congrFun hJ1.2.2.2.1 k)⟩
theorem pu_fmod : ∀ nx, nx < 10 → ∀ k, k < 11 → f_J9_floorMod_7cf53 (nI nx - nI k) (nI 10) = some (nI ((nx + 10 - k) % 10)) := by decide +kernel
theorem pr_undo {m : zz_Mem} {s : Nat} (hs : s < 10) (h85 : m.1 1 85 = nI s) : ∃ m', f_X12_undo_44 zz_fuel 0 m = some (nI s, m') ∧ pq_fr [1] m m' ∧ (∀ k, k < 19 → m'.1 1 (66 + k) = m.1 1 (86 + 19 * s + k)) ∧ ∀ j, (j < 66 ∨ 84 < j) → m'.1 1 j = m.1 1 j := by
  have hfu : zz_fuel = 5000 := rfl
  have l19 : (19 : Int32) = nI 19 := rfl
  have l86 : (86 : Int32) = nI 86 := rfl
  have l66 : (66 : Int32) = nI 66 := rfl
  have loop : ∀ (r k fuel : Nat) (m1 : zz_Mem), k + r = 19 → r < fuel → pq_fr [1] m m1 → (∀ j, j < k → m1.1 1 (66 + j) = m.1 1 (86 + 19 * s + j)) → (∀ j, (j < 66 ∨ 84 < j) → m1.1 1 j = m.1 1 j) → ∃ m', f_X12_undo_44 fuel (nI k) m1 = some (nI s, m') ∧ pq_fr [1] m m' ∧ (∀ k, k < 19 → m'.1 1 (66 + k) = m.1 1 (86 + 19 * s + k)) ∧ ∀ j, (j < 66 ∨ 84 < j) → m'.1 1 j = m.1 1 j := by
    intro r
    induction r with
    | zero =>
      intro k fuel m1 h1 h2 f h3 h4
      obtain ⟨fu, rfl⟩ : ∃ n, fuel = n + 1 := ⟨fuel - 1, by omega⟩
      rw [f_X12_undo_44, l19, if_pos (nI_le (by omega) (by omega)), h4 85 (by omega), h85]
      exact ⟨m1, rfl, f, fun j hj => h3 j (by omega), h4⟩
    | succ r ih =>
      intro k fuel m1 h1 h2 f h3 h4
      obtain ⟨fu, rfl⟩ : ∃ n, fuel = n + 1 := ⟨fuel - 1, by omega⟩
      rw [f_X12_undo_44, l19, if_neg (nI_ge (by omega) (by omega)), h4 85 (by omega), h85, l86, pk_mul, nI_add, nI_add, pq_ixE (by omega) (by decide), l66, nI_add, pq_ixE (by omega) (by decide), nI_clamp (by omega), nI_clamp (by omega), pq_letM, pq_letI, nI_1, h4 _ (by omega)]
      exact ih (k + 1) fu _ (by omega) (by omega) (pq_frI f _ _ (by simp)) (fun j hj => by
        by_cases c : j = k
        · rw [c, qx_isE]
        · rw [qx_isN (by omega)]; exact h3 j (by omega)) (fun j hj => by rw [qx_isN (by omega)]; exact h4 j hj)
  have := loop 19 0 zz_fuel m (by omega) (by omega) (pq_fr0 m) (fun j hj => absurd hj (Nat.not_lt_zero _)) (fun _ _ => rfl)
  rw [nI_0] at this
  exact this
theorem op_undo : zL_op13 pI := by
  intro n μ ν p1 ⟨a, hv, hS, hc, hr, hx⟩
  obtain ⟨k0, r0, s0⟩ := pr_t0 hr 0 (by decide) 0
  have fr0 : pFr ν (zz_setI ν 0 0 0) := pFrI ν (by decide) 0
  unfold f_X11_undo f_X12_undo
  rw [pq_letM]
  generalize zz_setI ν 0 0 0 = ν1 at *
  have fin := pI_mk hv hS hx hc (pK_c0 μ) r0 k0
  obtain ⟨s, nx, s1, s2, s3, s4, s5, s6⟩ := hx.1
  have e1 : (1 : Int64).toInt = 1 := rfl
  have e10 : (10 : Int64).toInt = 10 := rfl
  have l1 : (1 : Int32) = nI 1 := rfl
  have l10 : (10 : Int32) = nI 10 := rfl
  have h85 : ν1.1 1 85 = nI s := by rw [k0.1 1 (by omega)]; exact s3
  rw [l10]
  rcases pi_within p1.toInt64 1 10 with ⟨g1, g2, g3⟩ | ⟨g1, g3⟩
  · rw [Int32.toInt_toInt64, e1] at g1
    rw [Int32.toInt_toInt64, e10] at g2
    obtain ⟨k, k1, k2, k3⟩ := pi_to (x := p1) (by omega)
    rw [if_neg (show ¬ p1 < 1 by rw [l1, pi_nlt (by decide)]; omega), if_neg (show ¬ nI 10 < p1 by rw [pi_nlt' (by decide)]; omega), g3, pq_bndS, if_neg (show ¬ (1 : Int32) = 0 by decide), s4, h85, k1]
    by_cases c : k ≤ s
    · rw [if_pos (nI_le c (by omega)), if_pos (nI_le c (by omega)), pk_sub c, pq_letM]
      -- the reference
      obtain ⟨ν3, q1, q2, q3, q4⟩ := pr_undo (m := zz_setI ν1 1 85 (nI (s - k))) (s := s - k) (by omega) qx_isE
      rw [q1]
      -- the class
      unfold f_X5_back
      rw [s5, l10, pu_fmod nx s2 k (by omega), pq_bndS, pq_letM]
      have r2 : (zz_setI μ 34 1 (nI ((nx + 10 - k) % 10))).1 34 2 = nI s := by rw [qx_isN (by decide)]; exact s4
      have hmx : f_J9_max_7cf53 (0 : Int32) (nI s - nI k) = some (nI (s - k)) := by
        rw [pk_sub c]
        unfold f_J9_max_7cf53
        by_cases z : s - k = 0
        · rw [z, if_neg (by decide)]; rfl
        · have l0 : (0 : Int32) = nI 0 := rfl
          rw [l0, if_pos (nI_lt (by omega) (by omega))]
      have hlt : (nx + 10 - k) % 10 < 10 := Nat.mod_lt _ (by decide)
      rw [r2, hmx, pq_bndS, pq_letM]
      generalize hm4 : zz_setI (zz_setI μ 34 1 (nI ((nx + 10 - k) % 10))) 34 2 (nI (s - k)) = m4
      have f4 : pq_fr [34] μ m4 := by rw [← hm4]; exact pq_frI (pq_frI (pq_fr0 μ) _ _ (by simp)) _ _ (by simp)
      have q34 : m4.1 34 1 = nI ((nx + 10 - k) % 10) := by rw [← hm4, qx_isN (by decide), qx_isE]
      have q342 : m4.1 34 2 = nI (s - k) := by rw [← hm4, qx_isE]
      rw [q34, pq_ixE (by omega) (by decide), nI_clamp (by omega)]
      obtain ⟨m6, z1, z2, z3⟩ := pc_copy 13 (36 + 3 * ((nx + 10 - k) % 10)) m4 (by omega)
      rw [z1, pq_bndS, pq_bndS, pq_letM]
      have fz : pq_fr [13, 14, 15, 34] μ m6 := pq_frT (pq_frW f4 (by simp)) (pq_frW z2 (by simp <;> omega))
      have r34 : (zz_setI m6 0 18 1).1 34 2 = nI (s - k) := by rw [pz_In _ _ _ (by decide), (z2 34 (by simp)).1]; exact q342
      rw [r34]
      refine ⟨_, _, ν3, rfl, rfl, ?_⟩
      have ew : ∀ j, (j < 66 ∨ 84 < j) → j ≠ 85 → ν3.1 1 j = ν.1 1 j := fun j hj hj2 => by
        rw [q4 j hj, qx_isN hj2, k0.1 1 (by omega)]
      have est : ∀ k', k' < 19 → pr_st ν3 k' = ν.1 1 (86 + 19 * (s - k) + k') := fun k' hk' => by
        show ν3.1 1 (66 + k') = _
        rw [q3 k' hk', qx_isN (by omega), k0.1 1 (by omega)]
      -- the stand that comes back (if s - k < s: an old row; k is 1 at least)
      obtain ⟨o1, o2⟩ := s6 (s - k) (by omega)
      rw [show (nx + 10 - s + (s - k)) % 10 = (nx + 10 - k) % 10 by omega] at o1
      have o1' : pc_stand m4 (36 + 3 * ((nx + 10 - k) % 10)) (pN a) (pF a) (fun k' => ν.1 1 (86 + 19 * (s - k) + k')) := pc_standF o1 f4 (by simp <;> omega) (by simp <;> omega) (by simp <;> omega)
      have o3 : pc_stand m6 13 (pN a) (pF a) (pr_st ν3) := pc_standC (z3 _ _ _ (pN_b hv).1 (pF_b hv).1 o1') (pN_b hv).1 (pF_b hv).1 est
      have hcs : ∀ k', 72 ≤ k' → (zz_setI m6 0 18 1).1 k' = μ.1 k' ∧ (zz_setI m6 0 18 1).2.1 k' = μ.2.1 k' := fun k' hk' => ⟨by rw [pz_In _ _ _ (by omega)]; exact (fz k' (by simp <;> omega)).1, (fz k' (by simp <;> omega)).2.1⟩
      refine ⟨a, hv, pv_SC hv o2 est, ?_, ⟨fun j hj => by rw [ew j (by omega) (by omega)]; exact hr.1 j hj, ?_⟩, ?_⟩
      · obtain ⟨h1, h2, h3, h4, h5, h6, h7⟩ := hc
        have f5 : pq_fr [0, 13, 14, 15, 34] μ (zz_setI m6 0 18 1) := pq_frI (pq_frW fz (by simp <;> omega)) _ _ (by simp)
        refine ⟨pc_planF h1 f5 (fun j hj => by simp <;> omega), ?_, ?_, pc_schedF h4 f5 (fun j a1 a2 => by simp <;> omega), ?_, ?_, Or.inl qx_isE⟩
        · unfold pc_stand at o3 ⊢; rw [pz_In _ _ _ (by decide), pz_In _ _ _ (by decide), pz_In _ _ _ (by decide)]; exact o3
        · unfold pc_known; rw [(f5 82 (by simp)).1]; exact h3
        · unfold pc_fb; rw [(f5 (83 + 2) (by simp)).1]; exact h5
        · unfold pc_fb; rw [(f5 (88 + 2) (by simp)).1]; exact h6
      · have f6 : pq_fr [0, 1, 17] ν ν3 := pq_frT (pq_frT fr0.1 (pq_frI (pq_fr0 _) _ _ (by simp) : pq_fr [0, 1, 17] ν1 (zz_setI ν1 1 85 (nI (s - k))))) (pq_frW q2 (by simp))
        exact pr_schedF hr.2 f6 (fun j a1 a2 => by simp <;> omega)
      · have f6 : pq_fr [0, 1, 17] ν ν3 := pq_frT (pq_frT fr0.1 (pq_frI (pq_fr0 _) _ _ (by simp) : pq_fr [0, 1, 17] ν1 (zz_setI ν1 1 85 (nI (s - k))))) (pq_frW q2 (by simp))
        have e0 : ∀ j, (j = 5 ∨ j = 13 ∨ j = 14) → ν3.1 0 j = ν.1 0 j := fun j hj => by
          rw [(q2 0 (by simp)).1, pz_In _ _ _ (by decide)]
          rcases hj with rfl | rfl | rfl
          · exact fr0.2.2.1
          · exact fr0.2.2.2.1
          · exact fr0.2.2.2.2
        refine pI_x2 hx ⟨s - k, (nx + 10 - k) % 10, by omega, hlt, by rw [q4 85 (by omega), qx_isE], r34, by rw [pz_In _ _ _ (by decide), (z2 34 (by simp)).1]; exact q34, fun j hj => ?_⟩ ⟨fun k' hk' => ⟨by rw [pz_In _ _ _ (by omega)]; exact (fz k' (by simp <;> omega)).1, (fz k' (by simp <;> omega)).2.1⟩, (fz 30 (by simp)).2.2, (fz 32 (by simp)).2.2, by rw [qx_isN (by decide), (fz 0 (by simp)).1], by rw [qx_isN (by decide), (fz 0 (by simp)).1], by rw [qx_isN (by decide), (fz 0 (by simp)).1]⟩ ⟨fun k' hk' => (f6 k' (by simp <;> omega)).1, (f6 25 (by simp)).2.1, e0 5 (by omega), e0 13 (by omega), e0 14 (by omega), fun j hj => ew j (by omega) (by omega)⟩
        obtain ⟨y1, y2⟩ := s6 j (by omega)
        rw [show ((nx + 10 - k) % 10 + 10 - (s - k) + j) % 10 = (nx + 10 - s + j) % 10 by omega]
        have e : ∀ k', k' < 19 → ν3.1 1 (86 + 19 * j + k') = ν.1 1 (86 + 19 * j + k') := fun k' hk' => ew _ (by omega) (by omega)
        have hm : (nx + 10 - s + j) % 10 < 10 := Nat.mod_lt _ (by decide)
        refine ⟨pc_standC ?_ (pN_b hv).1 (pF_b hv).1 e, pv_SC hv y2 e⟩
        have f5 : pq_fr [0, 13, 14, 15, 34] μ (zz_setI m6 0 18 1) := pq_frI (pq_frW fz (by simp <;> omega)) _ _ (by simp)
        exact pc_standF y1 f5 (by simp <;> omega) (by simp <;> omega) (by simp <;> omega)
    · rw [if_neg (nI_ge (by omega) (by omega)), if_neg (nI_ge (by omega) (by omega))]
      exact ⟨_, _, _, rfl, rfl, fin⟩
  · rw [Int32.toInt_toInt64, e1, e10] at g1
    rw [g3, pq_bndS, if_pos rfl]
    by_cases c : p1 < 1
    · rw [if_pos c]; exact ⟨_, _, _, rfl, rfl, fin⟩
    · rw [if_neg c, if_pos (show nI 10 < p1 by rw [pi_nlt' (by decide)]; rw [l1, pi_nlt (by decide)] at c; omega)]
      exact ⟨_, _, _, rfl, rfl, fin⟩
