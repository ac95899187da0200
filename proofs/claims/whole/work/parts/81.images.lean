/-! ===== 81: images ===== -/
theorem pc_planA {m : zz_Mem} {o : Nat} {a b : Nat → Int32} (hv : pv_D a) (g : pv_ag b a) (h : pc_plan m o a) : pc_plan m o b := by
  obtain ⟨h0, h1, h2, h3, h5, h10, hh, hi, hf, hr, ho⟩ := h
  have b3 := hv.2.2.2.1.2
  have b4 := hv.2.2.2.2.1.2
  have b5 := hv.2.2.2.2.2.1.2
  have hlaw : ∀ law sh lo hi t, law < 2 → pv_law a law lo hi t → pc_law m o a law sh → pc_law m o b law sh := by
    intro law sh lo hi t hl hv' h
    unfold pc_law
    rw [g (6 + law) (by omega)]
    refine ⟨h.1, fun h6 => ?_⟩
    obtain ⟨q1, q2, q3⟩ := h.2 h6
    obtain ⟨c1, c2, c3, c4, c5⟩ := hv'.2 h6
    rw [pv_agn g (show 8 + law < 66 ∨ (277 ≤ 8 + law ∧ 8 + law < 1177) by omega), pv_agn g (show 10 + law < 66 ∨ (277 ≤ 10 + law ∧ 10 + law < 1177) by omega)]
    exact ⟨q1, q2, fun j hj => by rw [g _ (by omega)]; exact q3 j hj⟩
  unfold pc_plan
  rw [g 1 (by omega), g 2 (by omega), g 0 (by omega), g 3 (by omega), g 4 (by omega), g 5 (by omega), pv_agn g (show 3 < 66 ∨ _ by omega), pv_agn g (show 4 < 66 ∨ _ by omega), pv_agn g (show 5 < 66 ∨ _ by omega)]
  exact ⟨h0, h1, h2, h3, h5, h10, fun k hk => by rw [g _ (by omega)]; exact hh k hk, fun i hi' => by rw [g _ (by omega), g _ (by omega), g _ (by omega), g _ (by omega)]; exact hi i hi', fun k hk => by rw [g _ (by omega)]; exact hf k hk, hlaw 0 0 _ _ _ (by omega) hv.2.2.2.2.2.2.1 hr, hlaw 1 5 _ _ _ (by omega) hv.2.2.2.2.2.2.2.1 ho⟩
theorem pN_A {a b : Nat → Int32} (g : pv_ag b a) : pN b = pN a := pv_agn g (by omega)
theorem pF_A {a b : Nat → Int32} (g : pv_ag b a) : pF b = pF a := pv_agn g (by omega)
/-- a plan copied -/
theorem pc_copyP (o o0 : Nat) (m : zz_Mem) (hd : o + 13 < o0 ∨ o0 + 13 < o) : ∃ m', f_X6_copyFrom o o0 m = some m' ∧ (∀ k, (k < o ∨ o + 13 < k ∨ k = o + 9 ∨ k = o + 10) → m'.1 k = m.1 k ∧ m'.2.1 k = m.2.1 k ∧ m'.2.2 k = m.2.2 k) ∧ m'.2 = m.2 ∧ (∀ a, pv_D a → pc_plan m o0 a → pc_plan m' o a) ∧ ∀ p q s, p ≤ 8 → q ≤ 10 → pc_stand m (o0 + 11) p q s → pc_stand m' (o + 11) p q s := by
  unfold f_X6_copyFrom f_X3_copyFrom
  simp only [pq_letM]
  generalize hA : zz_rowI _ (o + 6) _ = mA
  have fA : ∀ k, (k < o ∨ o + 6 < k) → mA.1 k = m.1 k := fun k hk => by
    rw [← hA, pz_rn _ _ (by omega), pz_In _ _ _ (by omega), pz_rn _ _ (by omega), pz_rn _ _ (by omega), pz_rn _ _ (by omega), pz_rn _ _ (by omega), pz_In _ _ _ (by omega), pz_rn _ _ (by omega), pz_In _ _ _ (by omega), pz_In _ _ _ (by omega), pz_In _ _ _ (by omega), pz_In _ _ _ (by omega)]
  have eA : mA.2 = m.2 := by rw [← hA]; rfl
  have cell : ∀ j, (j = 0 ∨ j = 1 ∨ j = 2 ∨ j = 3 ∨ j = 5 ∨ j = 10) → mA.1 o j = m.1 o0 j := fun j hj => by
    rw [← hA]
    rcases hj with rfl | rfl | rfl | rfl | rfl | rfl <;> simp (disch := omega) only [pz_rn, pz_rs, pz_In, qx_isE, qx_isN]
  have rowA : ∀ d w, (d = 1 ∧ w = 12) ∨ ((d = 2 ∨ d = 3 ∨ d = 4 ∨ d = 5) ∧ w = 8) ∨ (d = 6 ∧ w = 10) → ∀ j, j < w → mA.1 (o + d) j = m.1 (o0 + d) j := fun d w hdw j hj => by
    rw [← hA]
    rcases hdw with ⟨rfl, rfl⟩ | ⟨rfl | rfl | rfl | rfl, rfl⟩ | ⟨rfl, rfl⟩ <;> simp (disch := omega) only [pz_rn, pz_rs, pz_In, pk_cpy_in, Nat.zero_add, Nat.sub_zero]
  rw [pq_bndS]
  generalize hB : zz_setI _ (o + 7) 7 _ = mB
  have fB : ∀ k, (k < o + 7 ∨ o + 8 < k) → mB.1 k = mA.1 k := fun k hk => by
    rw [← hB, pz_In _ _ _ (by omega), pz_In _ _ _ (by omega), pz_In _ _ _ (by omega), pz_In _ _ _ (by omega), pz_In _ _ _ (by omega), pz_rn _ _ (by omega)]
  have eB : mB.2 = mA.2 := by rw [← hB]; rfl
  have cB : ∀ j, 4 ≤ j → j ≤ 7 → mB.1 (o + 7) j = m.1 (o0 + 7) j := fun j j1 j2 => by
    have e7 : mA.1 (o0 + 7) = m.1 (o0 + 7) := fA _ (by omega)
    rw [← hB]
    have : j = 4 ∨ j = 5 ∨ j = 6 ∨ j = 7 := by omega
    rcases this with rfl | rfl | rfl | rfl <;> simp (disch := omega) only [pz_rn, pz_rs, pz_In, qx_isE, qx_isN, e7]
  have rB : ∀ j, j < 900 → mB.1 (o + 8) j = m.1 (o0 + 8) j := fun j hj => by
    have e8 : mA.1 (o0 + 7 + 1) = m.1 (o0 + 8) := fA _ (by omega)
    rw [← hB, pz_In _ _ _ (by omega), pz_In _ _ _ (by omega), pz_In _ _ _ (by omega), pz_In _ _ _ (by omega), pz_In _ _ _ (by omega), show o + 8 = o + 7 + 1 from rfl, pz_rs, pk_cpy_in (by omega) (by omega), Nat.zero_add, Nat.sub_zero, e8]
  obtain ⟨m', e', f', g'⟩ := pc_copy (o + 11) (o0 + 11) mB (by omega)
  rw [e', pq_bndS]
  have e2' : m'.2 = mB.2 := by
    unfold f_X9_copyFrom at e'
    rw [pq_letM, pq_letM, pq_letM] at e'
    rw [← Option.some.inj e']; rfl
  have e2 : m'.2 = m.2 := e2'.trans (eB.trans eA)
  refine ⟨m', rfl, fun k hk => ⟨?_, by rw [e2], by rw [e2]⟩, e2, fun a hv h => ?_, fun p q s hp hq h => g' p q s hp hq ?_⟩
  · rw [(f' k (by simp <;> omega)).1]
    by_cases c : k = o + 9 ∨ k = o + 10
    · rw [fB k (by omega), fA k (by omega)]
    · rw [fB k (by omega), fA k (by omega)]
  · have q0 : ∀ d, d < 7 → m'.1 (o + d) = mA.1 (o + d) := fun d hd' => by rw [(f' _ (by simp <;> omega)).1, fB _ (by omega)]
    have q7 : m'.1 (o + 7) = mB.1 (o + 7) := (f' _ (by simp <;> omega)).1
    have q8 : m'.1 (o + 8) = mB.1 (o + 8) := (f' _ (by simp <;> omega)).1
    obtain ⟨h0, h1, h2, h3, h5, h10, hh, hi, hf, hr, ho⟩ := h
    have b3 := hv.2.2.2.1.2
    have b4 := hv.2.2.2.2.1.2
    have b5 := hv.2.2.2.2.2.1.2
    have hlaw : ∀ law sh lo hi t, law < 2 → pv_law a law lo hi t → pc_law m o0 a law sh → pc_law m' o a law sh := by
      intro law sh lo hi t hl hv' h
      unfold pc_law at h ⊢
      rw [q7, q8, cB _ (by omega) (by omega), cB _ (by omega) (by omega)]
      refine ⟨h.1, fun h6 => ?_⟩
      obtain ⟨z1, z2, z3⟩ := h.2 h6
      obtain ⟨c1, c2, c3, c4, c5⟩ := hv'.2 h6
      exact ⟨z1, z2, fun j hj => by rw [rB _ (by omega)]; exact z3 j hj⟩
    unfold pc_plan
    rw [show m'.1 o = mA.1 o from q0 0 (by omega), q0 1 (by omega), q0 2 (by omega), q0 3 (by omega), q0 4 (by omega), q0 5 (by omega), q0 6 (by omega), cell 0 (by omega), cell 1 (by omega), cell 2 (by omega), cell 3 (by omega), cell 5 (by omega), cell 10 (by omega)]
    exact ⟨h0, h1, h2, h3, h5, h10, fun k hk => by rw [rowA 1 12 (by omega) k (by omega)]; exact hh k hk, fun i hi' => by rw [rowA 2 8 (by omega) i (by omega), rowA 3 8 (by omega) i (by omega), rowA 4 8 (by omega) i (by omega), rowA 5 8 (by omega) i (by omega)]; exact hi i hi', fun k hk => by rw [rowA 6 10 (by omega) k (by omega)]; exact hf k hk, hlaw 0 0 _ _ _ (by omega) hv.2.2.2.2.2.2.1 hr, hlaw 1 5 _ _ _ (by omega) hv.2.2.2.2.2.2.2.1 ho⟩
  · have q : ∀ d, d < 3 → mB.1 (o0 + 11 + d) = m.1 (o0 + 11 + d) := fun d hd' => by rw [fB _ (by omega), fA _ (by omega)]
    unfold pc_stand at h ⊢
    rw [show mB.1 (o0 + 11) = m.1 (o0 + 11) from q 0 (by omega), q 1 (by omega), q 2 (by omega)]
    exact h
theorem pf_FSC {a : Nat → Int32} {c c' : Nat → Nat} {F : Nat → Int} (hc : ∀ i, i < pN a → c' i = c i) (h : pf_FS a c F (pL a)) : pf_FS a c' F (pL a) := ⟨h.1, fun k k1 k2 => by
  have e : pf_fits a c' k F = pf_fits a c k F := funext (fun f => propext (pf_fitsC (hc _ (pInp_b k1 k2).1) (fun _ _ => rfl) f))
  rw [e]; exact h.2 k k1 k2⟩
theorem pI_cS {m : zz_Mem} {a st st' : Nat → Int32} (hv : pv_D a) (h : pI_c m a st) (e : ∀ k, k < 19 → st' k = st k) : pI_c m a st' := by
  obtain ⟨h1, h2, h3, h4, h5, h6, h7⟩ := h
  have h8 := (pN_b hv).1
  refine ⟨h1, pc_standC h2 h8 (pF_b hv).1 e, h3, h4, h5, h6, ?_⟩
  rcases h7 with h7 | ⟨h7, F, hF⟩
  · exact Or.inl h7
  · have ec : ∀ i, i < pN a → pCnt a st' (st' 8) i = pCnt a st (st 8) i := fun i hi => by unfold pCnt; rw [e 8 (by omega), e i (by omega)]
    exact Or.inr ⟨h7, F, fun i hi => by rw [ec i hi]; exact hF.1 i hi, pf_FSC ec hF.2.1, hF.2.2⟩
/-- an image over another row -/
theorem pX_imgC {n n' : Nat} {μ μ' ν ν' : zz_Mem} {i : Nat} (h : pX_img n μ ν i) (hn : n ≤ n') (h32 : μ'.2.2 32 i = μ.2.2 32 i) (h2 : ν'.1 2 i = ν.1 2 i) (hc : ∀ o, μ.2.2 32 i = some o → ∀ k, o ≤ k → k ≤ o + 13 → k ≠ o + 9 → k ≠ o + 10 → μ'.1 k = μ.1 k) (hb : ∀ k, k < 1177 → pr_img ν' i k = pr_img ν i k) : pX_img n' μ' ν' i := by
  unfold pX_img at h ⊢
  rw [h32, h2]
  rcases h with h | ⟨o, o1, o2, o3, o4, o5, o6, o7⟩
  · exact Or.inl h
  · have g : pv_ag (pr_img ν' i) (pr_img ν i) := fun j hj => hb j (by omega)
    have e : ∀ k, k < 19 → pr_img ν' i (66 + k) = pr_img ν i (66 + k) := fun k hk => hb _ (by omega)
    have q := hc o o1
    refine Or.inr ⟨o, o1, o2, by omega, pc_planA o6 g ?_, ?_, pv_agD g o6, ?_⟩
    · unfold pc_plan pc_law at o4 ⊢
      rw [q o (by omega) (by omega) (by omega) (by omega), q (o + 1) (by omega) (by omega) (by omega) (by omega), q (o + 2) (by omega) (by omega) (by omega) (by omega), q (o + 3) (by omega) (by omega) (by omega) (by omega), q (o + 4) (by omega) (by omega) (by omega) (by omega), q (o + 5) (by omega) (by omega) (by omega) (by omega), q (o + 6) (by omega) (by omega) (by omega) (by omega), q (o + 7) (by omega) (by omega) (by omega) (by omega), q (o + 8) (by omega) (by omega) (by omega) (by omega)]
      exact o4
    · rw [pN_A g, pF_A g]
      refine pc_standC ?_ (pN_b o6).1 (pF_b o6).1 e
      unfold pc_stand at o5 ⊢
      rw [q (o + 11) (by omega) (by omega) (by omega) (by omega), q (o + 11 + 1) (by omega) (by omega) (by omega) (by omega), q (o + 11 + 2) (by omega) (by omega) (by omega) (by omega)]
      exact o5
    · have hS2 := pv_SC o6 o7 e
      refine ⟨fun i' hi' => ?_, fun k hk => ?_⟩
      · rw [pN_A g] at hi'; exact hS2.1 i' hi'
      · rw [pF_A g] at hk; exact hS2.2 k hk
theorem pr_image {m : zz_Mem} {i : Nat} (hi : i < 2) : ∃ m', f_X12_image_20 zz_fuel (nI i) 0 m = some (0, m') ∧ pq_fr [1, 2] m m' ∧ m'.2 = m.2 ∧ m'.1 2 i = 1 ∧ (∀ j, j ≠ i → m'.1 2 j = m.1 2 j) ∧ (∀ k, k < 1177 → m'.1 1 (1177 * (i + 1) + k) = m.1 1 k) ∧ ∀ j, (j < 1177 * (i + 1) ∨ 1177 * (i + 1) + 1177 ≤ j) → m'.1 1 j = m.1 1 j := by
  have hfu : zz_fuel = 5000 := rfl
  have l : (1177 : Int32) = nI 1177 := rfl
  have loop : ∀ (r k fuel : Nat) (m1 : zz_Mem), k + r = 1177 → r < fuel → pq_fr [1] m m1 → m1.2 = m.2 → (∀ j, j < k → m1.1 1 (1177 * (i + 1) + j) = m.1 1 j) → (∀ j, (j < 1177 * (i + 1) ∨ 1177 * (i + 1) + 1177 ≤ j) → m1.1 1 j = m.1 1 j) → ∃ m', f_X12_image_20 fuel (nI i) (nI k) m1 = some (0, m') ∧ pq_fr [1, 2] m m' ∧ m'.2 = m.2 ∧ m'.1 2 i = 1 ∧ (∀ j, j ≠ i → m'.1 2 j = m.1 2 j) ∧ (∀ k, k < 1177 → m'.1 1 (1177 * (i + 1) + k) = m.1 1 k) ∧ ∀ j, (j < 1177 * (i + 1) ∨ 1177 * (i + 1) + 1177 ≤ j) → m'.1 1 j = m.1 1 j := by
    intro r
    induction r with
    | zero =>
      intro k fuel m1 h1 h2 f f2 h3 h4
      obtain ⟨fu, rfl⟩ : ∃ n, fuel = n + 1 := ⟨fuel - 1, by omega⟩
      have eb : vp_nar .boolean (1 : Int32) = 1 := by decide
      rw [f_X12_image_20, l, if_pos (nI_le (by omega) (by omega))]
      unfold f_X12_image_53
      rw [pq_ixE (by omega) (by decide), nI_clamp (by omega), pq_letM, eb]
      exact ⟨_, rfl, pq_frI (pq_frW f (by simp)) _ _ (by simp), f2, qx_isE, fun j hj => by rw [qx_isN hj, (f 2 (by simp)).1], fun j hj => by rw [pz_In _ _ _ (by decide)]; exact h3 j (by omega), fun j hj => by rw [pz_In _ _ _ (by decide)]; exact h4 j hj⟩
    | succ r ih =>
      intro k fuel m1 h1 h2 f f2 h3 h4
      obtain ⟨fu, rfl⟩ : ∃ n, fuel = n + 1 := ⟨fuel - 1, by omega⟩
      rw [f_X12_image_20, l, if_neg (nI_ge (by omega) (by omega)), pq_ixE (by omega) (by decide), nI_1, pk_mul, nI_add, pq_ixE (by omega) (by decide), nI_clamp (by omega), nI_clamp (by omega), pq_letM, pq_letI, nI_1, h4 k (by omega)]
      exact ih (k + 1) fu _ (by omega) (by omega) (pq_frI f _ _ (by simp)) f2 (fun j hj => by
        by_cases c : j = k
        · rw [c, qx_isE]
        · rw [qx_isN (by omega)]; exact h3 j (by omega)) (fun j hj => by rw [qx_isN (by omega)]; exact h4 j hj)
  have := loop 1177 0 zz_fuel m (by omega) (by omega) (pq_fr0 m) rfl (fun j hj => absurd hj (Nat.not_lt_zero _)) (fun _ _ => rfl)
  rw [nI_0] at this
  exact this
