/-! ===== 73: stands kept, what can be undone ===== -/
theorem pc_standC {m : zz_Mem} {o p q : Nat} {s s' : Nat → Int32} (h : pc_stand m o p q s) (hp : p ≤ 8) (hq : q ≤ 10) (e : ∀ k, k < 19 → s' k = s k) : pc_stand m o p q s' := ⟨by rw [e 8 (by omega)]; exact h.1, fun i hi => by rw [e i (by omega)]; exact h.2.1 i hi, fun k hk => by rw [e (9 + k) (by omega)]; exact h.2.2 k hk⟩
theorem pv_SC {a s s' : Nat → Int32} (hv : pv_D a) (h : pv_S a s) (e : ∀ k, k < 19 → s' k = s k) : pv_S a s' := ⟨fun i hi => by
  have := (pN_b hv).1
  rw [e i (by omega)]; exact h.1 i hi, fun k hk => by
  have := (pF_b hv).1
  rw [e (9 + k) (by omega)]; exact h.2 k hk⟩
theorem pc_copy (o o0 : Nat) (m : zz_Mem) (hd : o + 2 < o0 ∨ o0 + 2 < o) : ∃ m', f_X9_copyFrom o o0 m = some m' ∧ pq_fr [o, o + 1, o + 2] m m' ∧ ∀ p q s, p ≤ 8 → q ≤ 10 → pc_stand m o0 p q s → pc_stand m' o p q s := by
  unfold f_X9_copyFrom
  rw [pq_letM, pq_letM, pq_letM]
  refine ⟨_, rfl, pq_frI (pq_frr (pq_frr (pq_fr0 m) _ (by simp)) _ (by simp)) _ _ (by simp), fun p q s hp hq h => ⟨?_, fun i hi => ?_, fun k hk => ?_⟩⟩
  · rw [qx_isE, pz_rn _ _ (by omega), pz_rn _ _ (by omega)]; exact h.1
  · rw [pz_In _ _ _ (by omega), pz_rn _ _ (by omega), pz_rs, pk_cpy_in (by omega) (by omega), Nat.zero_add, Nat.sub_zero]; exact h.2.1 i hi
  · rw [pz_In _ _ _ (by omega), pz_rs, pk_cpy_in (by omega) (by omega), Nat.zero_add, Nat.sub_zero, pz_rn _ _ (by omega)]; exact h.2.2 k hk
theorem pr_stores (m : zz_Mem) : ∃ m', f_X12_stores m = some m' ∧ pq_fr [17] m m' ∧ ∀ k, k < 19 → m'.1 17 k = pr_st m k := by
  have hfu : zz_fuel = 5000 := rfl
  have l19 : (19 : Int32) = nI 19 := rfl
  have l66 : (66 : Int32) = nI 66 := rfl
  have loop : ∀ (r k fuel : Nat) (m1 : zz_Mem), k + r = 19 → r < fuel → pq_fr [17] m m1 → (∀ j, j < k → m1.1 17 j = pr_st m j) → ∃ m', f_X12_stores_2 fuel (nI k) m1 = some m' ∧ pq_fr [17] m m' ∧ ∀ k, k < 19 → m'.1 17 k = pr_st m k := by
    intro r
    induction r with
    | zero =>
      intro k fuel m1 h1 h2 f h3
      obtain ⟨fu, rfl⟩ : ∃ n, fuel = n + 1 := ⟨fuel - 1, by omega⟩
      rw [f_X12_stores_2, l19, if_pos (nI_le (by omega) (by omega))]
      exact ⟨m1, rfl, f, fun j hj => h3 j (by omega)⟩
    | succ r ih =>
      intro k fuel m1 h1 h2 f h3
      obtain ⟨fu, rfl⟩ : ∃ n, fuel = n + 1 := ⟨fuel - 1, by omega⟩
      rw [f_X12_stores_2, l19, if_neg (nI_ge (by omega) (by omega)), l66, nI_add, pq_ixE (by omega) (by decide), pq_ixE (by omega) (by decide), nI_clamp (by omega), nI_clamp (by omega), pq_letM, pq_letI, nI_1]
      exact ih (k + 1) fu _ (by omega) (by omega) (pq_frI f _ _ (by simp)) (fun j hj => by
        by_cases c : j = k
        · rw [c, qx_isE, (f 1 (by simp)).1]; rfl
        · rw [qx_isN c]; exact h3 j (by omega))
  have := loop 19 0 zz_fuel m (by omega) (by omega) (pq_fr0 m) (fun j hj => absurd hj (Nat.not_lt_zero _))
  rw [nI_0] at this
  exact this
theorem pr_isAgain (m : zz_Mem) : ∃ m', f_X12_isAgain m = some m' ∧ pq_fr [1] m m' ∧ (∀ k, k < 19 → m'.1 1 (66 + k) = m.1 17 k) ∧ ∀ j, (j < 66 ∨ 84 < j) → m'.1 1 j = m.1 1 j := by
  have hfu : zz_fuel = 5000 := rfl
  have l19 : (19 : Int32) = nI 19 := rfl
  have l66 : (66 : Int32) = nI 66 := rfl
  have loop : ∀ (r k fuel : Nat) (m1 : zz_Mem), k + r = 19 → r < fuel → pq_fr [1] m m1 → (∀ j, j < k → m1.1 1 (66 + j) = m.1 17 j) → (∀ j, (j < 66 ∨ 84 < j) → m1.1 1 j = m.1 1 j) → ∃ m', f_X12_isAgain_2 fuel (nI k) m1 = some m' ∧ pq_fr [1] m m' ∧ (∀ k, k < 19 → m'.1 1 (66 + k) = m.1 17 k) ∧ ∀ j, (j < 66 ∨ 84 < j) → m'.1 1 j = m.1 1 j := by
    intro r
    induction r with
    | zero =>
      intro k fuel m1 h1 h2 f h3 h4
      obtain ⟨fu, rfl⟩ : ∃ n, fuel = n + 1 := ⟨fuel - 1, by omega⟩
      rw [f_X12_isAgain_2, l19, if_pos (nI_le (by omega) (by omega))]
      exact ⟨m1, rfl, f, fun j hj => h3 j (by omega), h4⟩
    | succ r ih =>
      intro k fuel m1 h1 h2 f h3 h4
      obtain ⟨fu, rfl⟩ : ∃ n, fuel = n + 1 := ⟨fuel - 1, by omega⟩
      rw [f_X12_isAgain_2, l19, if_neg (nI_ge (by omega) (by omega)), l66, nI_add, pq_ixE (by omega) (by decide), pq_ixE (by omega) (by decide), nI_clamp (by omega), nI_clamp (by omega), pq_letM, pq_letI, nI_1]
      exact ih (k + 1) fu _ (by omega) (by omega) (pq_frI f _ _ (by simp)) (fun j hj => by
        by_cases c : j = k
        · rw [c, qx_isE, (f 17 (by simp)).1]
        · rw [qx_isN (by omega)]; exact h3 j (by omega)) (fun j hj => by rw [qx_isN (by omega)]; exact h4 j hj)
  have := loop 19 0 zz_fuel m (by omega) (by omega) (pq_fr0 m) (fun j hj => absurd hj (Nat.not_lt_zero _)) (fun _ _ => rfl)
  rw [nI_0] at this
  exact this
/-- a row is noted behind s others -/
theorem pr_note1 {m : zz_Mem} {s : Nat} (hs : s < 10) (h85 : m.1 1 85 = nI s) : ∃ m', f_X12_notes_58 zz_fuel 0 m = some m' ∧ pq_fr [1] m m' ∧ m'.1 1 85 = nI (s + 1) ∧ (∀ k, k < 19 → m'.1 1 (86 + 19 * s + k) = m.1 17 k) ∧ ∀ j, j ≠ 85 → (j < 86 + 19 * s ∨ 86 + 19 * s + 19 ≤ j) → m'.1 1 j = m.1 1 j := by
  have hfu : zz_fuel = 5000 := rfl
  have l19 : (19 : Int32) = nI 19 := rfl
  have l86 : (86 : Int32) = nI 86 := rfl
  have loop : ∀ (r k fuel : Nat) (m1 : zz_Mem), k + r = 19 → r < fuel → pq_fr [1] m m1 → (∀ j, j < k → m1.1 1 (86 + 19 * s + j) = m.1 17 j) → (∀ j, (j < 86 + 19 * s ∨ 86 + 19 * s + 19 ≤ j) → m1.1 1 j = m.1 1 j) → ∃ m', f_X12_notes_58 fuel (nI k) m1 = some m' ∧ pq_fr [1] m m' ∧ m'.1 1 85 = nI (s + 1) ∧ (∀ k, k < 19 → m'.1 1 (86 + 19 * s + k) = m.1 17 k) ∧ ∀ j, j ≠ 85 → (j < 86 + 19 * s ∨ 86 + 19 * s + 19 ≤ j) → m'.1 1 j = m.1 1 j := by
    intro r
    induction r with
    | zero =>
      intro k fuel m1 h1 h2 f h3 h4
      obtain ⟨fu, rfl⟩ : ∃ n, fuel = n + 1 := ⟨fuel - 1, by omega⟩
      rw [f_X12_notes_58, l19, if_pos (nI_le (by omega) (by omega))]
      unfold f_X12_notes_96
      rw [h4 85 (by omega), h85, nI_1, pq_letM]
      exact ⟨_, rfl, pq_frI f _ _ (by simp), qx_isE, fun j hj => by rw [qx_isN (by omega)]; exact h3 j (by omega), fun j hj hj2 => by rw [qx_isN hj]; exact h4 j hj2⟩
    | succ r ih =>
      intro k fuel m1 h1 h2 f h3 h4
      obtain ⟨fu, rfl⟩ : ∃ n, fuel = n + 1 := ⟨fuel - 1, by omega⟩
      rw [f_X12_notes_58, l19, if_neg (nI_ge (by omega) (by omega)), h4 85 (by omega), h85, l86, pk_mul, nI_add, nI_add, pq_ixE (by omega) (by decide), pq_ixE (by omega) (by decide), nI_clamp (by omega), nI_clamp (by omega), pq_letM, pq_letI, nI_1]
      exact ih (k + 1) fu _ (by omega) (by omega) (pq_frI f _ _ (by simp)) (fun j hj => by
        by_cases c : j = k
        · rw [c, qx_isE, (f 17 (by simp)).1]
        · rw [qx_isN (by omega)]; exact h3 j (by omega)) (fun j hj => by rw [qx_isN (by omega)]; exact h4 j hj)
  have := loop 19 0 zz_fuel m (by omega) (by omega) (pq_fr0 m) (fun j hj => absurd hj (Nat.not_lt_zero _)) (fun _ _ => rfl)
  rw [nI_0] at this
  exact this
/-- the eldest is forgotten -/
theorem pr_note2 {m : zz_Mem} (h85 : m.1 1 85 = nI 10) : ∃ m1, f_X12_notes_14 zz_fuel 0 m = f_X12_notes_58 zz_fuel 0 m1 ∧ pq_fr [1] m m1 ∧ m1.1 1 85 = nI 9 ∧ (∀ j, j < 171 → m1.1 1 (86 + j) = m.1 1 (105 + j)) ∧ ∀ j, j ≠ 85 → (j < 86 ∨ 257 ≤ j) → m1.1 1 j = m.1 1 j := by
  have hfu : zz_fuel = 5000 := rfl
  have l171 : (171 : Int32) = nI 171 := rfl
  have l86 : (86 : Int32) = nI 86 := rfl
  have l105 : (105 : Int32) = nI 105 := rfl
  have l1 : (1 : Int32) = nI 1 := rfl
  have loop : ∀ (r k fuel : Nat) (m1 : zz_Mem), k + r = 171 → r < fuel → pq_fr [1] m m1 → (∀ j, j < k → m1.1 1 (86 + j) = m.1 1 (105 + j)) → (∀ j, (j < 86 ∨ 86 + k ≤ j) → m1.1 1 j = m.1 1 j) → ∃ m', f_X12_notes_14 fuel (nI k) m1 = f_X12_notes_58 zz_fuel 0 m' ∧ pq_fr [1] m m' ∧ m'.1 1 85 = nI 9 ∧ (∀ j, j < 171 → m'.1 1 (86 + j) = m.1 1 (105 + j)) ∧ ∀ j, j ≠ 85 → (j < 86 ∨ 257 ≤ j) → m'.1 1 j = m.1 1 j := by
    intro r
    induction r with
    | zero =>
      intro k fuel m1 h1 h2 f h3 h4
      obtain ⟨fu, rfl⟩ : ∃ n, fuel = n + 1 := ⟨fuel - 1, by omega⟩
      rw [f_X12_notes_14, l171, if_pos (nI_le (by omega) (by omega))]
      unfold f_X12_notes_45
      rw [h4 85 (by omega), h85, l1, pk_sub (by decide), pq_letM]
      exact ⟨_, rfl, pq_frI f _ _ (by simp), qx_isE, fun j hj => by rw [qx_isN (by omega)]; exact h3 j (by omega), fun j hj hj2 => by rw [qx_isN hj]; exact h4 j (by omega)⟩
    | succ r ih =>
      intro k fuel m1 h1 h2 f h3 h4
      obtain ⟨fu, rfl⟩ : ∃ n, fuel = n + 1 := ⟨fuel - 1, by omega⟩
      rw [f_X12_notes_14, l171, if_neg (nI_ge (by omega) (by omega)), l105, nI_add, l86, nI_add, pq_ixE (by omega) (by decide), pq_ixE (by omega) (by decide), nI_clamp (by omega), nI_clamp (by omega), pq_letM, pq_letI, nI_1, h4 (105 + k) (by omega)]
      exact ih (k + 1) fu _ (by omega) (by omega) (pq_frI f _ _ (by simp)) (fun j hj => by
        by_cases c : j = k
        · rw [c, qx_isE]
        · rw [qx_isN (by omega)]; exact h3 j (by omega)) (fun j hj => by rw [qx_isN (by omega)]; exact h4 j (by omega))
  have := loop 171 0 zz_fuel m (by omega) (by omega) (pq_fr0 m) (fun j hj => absurd hj (Nat.not_lt_zero _)) (fun _ _ => rfl)
  rw [nI_0] at this
  exact this
theorem pj_note {a : Nat → Int32} (hv : pv_D a) {μ ν : zz_Mem} (hx : pX_past μ ν a) {s0 : Nat → Int32} (h66 : pc_stand μ 66 (pN a) (pF a) s0) (h17 : ∀ k, k < 19 → ν.1 17 k = s0 k) (hS : pv_S a s0) : ∃ μ' ν', f_X5_push μ = some μ' ∧ f_X12_notes ν = some ν' ∧ pX_past μ' ν' a ∧ (∀ k, k ≠ 34 → (k < 36 ∨ 65 < k) → μ'.1 k = μ.1 k ∧ μ'.2.1 k = μ.2.1 k ∧ μ'.2.2 k = μ.2.2 k) ∧ pq_fr [1] ν ν' ∧ ∀ j, (j < 85 ∨ 276 ≤ j) → ν'.1 1 j = ν.1 1 j := by
  obtain ⟨s, nx, s1, s2, s3, s4, s5, s6⟩ := hx
  have hN := (pN_b hv).1
  have hF := (pF_b hv).1
  have l10 : (10 : Int32) = nI 10 := rfl
  have l1 : (1 : Int32) = nI 1 := rfl
  -- the class
  obtain ⟨m2, e2, f2, g2⟩ := pc_copy (36 + 3 * nx) 66 μ (by omega)
  have r34 : m2.1 34 = μ.1 34 := (f2 34 (by simp <;> omega)).1
  unfold f_X5_push
  rw [s5, pq_ixE (by omega) (by decide), nI_clamp (by omega), e2, pq_bndS, r34, s5, nI_1, l10, pk_rem (by omega) (by decide) (by decide), pq_letM]
  have r342 : (zz_setI m2 34 1 (nI ((nx + 1) % 10))).1 34 2 = nI s := by rw [qx_isN (by decide), r34]; exact s4
  rw [r342, nI_1]
  have hmin : f_J9_min_7cf53 (nI 10) (nI (s + 1)) = some (nI (if s < 10 then s + 1 else 10)) := by
    unfold f_J9_min_7cf53
    by_cases c : s < 10
    · rw [if_pos c]
      by_cases c2 : s + 1 < 10
      · rw [if_pos (nI_lt c2 (by omega))]
      · rw [if_neg (nI_nlt (by omega) (by omega)), show s + 1 = 10 by omega]
    · rw [if_neg c, if_neg (nI_nlt (by omega) (by omega))]
  rw [hmin, pq_bndS, pq_letM]
  generalize hm5 : zz_setI (zz_setI m2 34 1 (nI ((nx + 1) % 10))) 34 2 (nI (if s < 10 then s + 1 else 10)) = m5
  have frC : ∀ k, k ≠ 34 → (k < 36 ∨ 65 < k) → m5.1 k = μ.1 k ∧ m5.2.1 k = μ.2.1 k ∧ m5.2.2 k = μ.2.2 k := fun k hk hk2 => by
    have := f2 k (by simp <;> omega)
    rw [← hm5, pz_In _ _ _ hk, pz_In _ _ _ hk]
    exact this
  have q1 : m5.1 34 1 = nI ((nx + 1) % 10) := by rw [← hm5, qx_isN (by decide), qx_isE]
  have q2 : m5.1 34 2 = nI (if s < 10 then s + 1 else 10) := by rw [← hm5, qx_isE]
  have qs : ∀ i, i < 10 → i ≠ nx → ∀ p q st, pc_stand μ (36 + 3 * i) p q st → pc_stand m5 (36 + 3 * i) p q st := fun i hi hne p q st h => by
    have e0 : ∀ d, d < 3 → m5.1 (36 + 3 * i + d) = μ.1 (36 + 3 * i + d) := fun d hd => by
      rw [← hm5, pz_In _ _ _ (by omega), pz_In _ _ _ (by omega)]; exact (f2 _ (by simp <;> omega)).1
    unfold pc_stand
    rw [show m5.1 (36 + 3 * i) = μ.1 (36 + 3 * i) from e0 0 (by omega), e0 1 (by omega), e0 2 (by omega)]
    exact h
  have qn : pc_stand m5 (36 + 3 * nx) (pN a) (pF a) s0 := by
    have h := g2 _ _ _ hN hF h66
    unfold pc_stand at h ⊢
    rw [← hm5, pz_In _ _ _ (by omega), pz_In _ _ _ (by omega), pz_In _ _ _ (by omega), pz_In _ _ _ (by omega), pz_In _ _ _ (by omega), pz_In _ _ _ (by omega)]
    exact h
  unfold f_X12_notes
  rw [s3]
  by_cases c : s = 10
  · subst c
    obtain ⟨n1, e1, f1, g1, g3, g4⟩ := pr_note2 s3
    obtain ⟨n2, e3, f3, g5, g6, g7⟩ := pr_note1 (m := n1) (s := 9) (by omega) g1
    rw [if_pos (show nI 10 = 10 from rfl), e1, e3]
    refine ⟨m5, n2, rfl, rfl, ⟨10, (nx + 1) % 10, by omega, by omega, g5, by rw [q2, if_neg (by omega)], q1, fun j hj => ?_⟩, frC, pq_frT f1 f3, fun j hj => by rw [g7 j (by omega) (by omega), g4 j (by omega) (by omega)]⟩
    by_cases cj : j = 9
    · subst cj
      rw [show ((nx + 1) % 10 + 10 - 10 + 9) % 10 = nx by omega]
      have e : ∀ k, k < 19 → n2.1 1 (86 + 19 * 9 + k) = s0 k := fun k hk => by rw [g6 k hk, (f1 17 (by simp)).1]; exact h17 k hk
      exact ⟨pc_standC qn hN hF e, pv_SC hv hS e⟩
    · obtain ⟨o1, o2⟩ := s6 (j + 1) (by omega)
      rw [show ((nx + 1) % 10 + 10 - 10 + j) % 10 = (nx + 10 - 10 + (j + 1)) % 10 by omega]
      have e : ∀ k, k < 19 → n2.1 1 (86 + 19 * j + k) = ν.1 1 (86 + 19 * (j + 1) + k) := fun k hk => by
        rw [g7 _ (by omega) (by omega), show 86 + 19 * j + k = 86 + (19 * j + k) by omega, g3 _ (by omega), show 105 + (19 * j + k) = 86 + 19 * (j + 1) + k by omega]
      exact ⟨pc_standC (qs _ (Nat.mod_lt _ (by decide)) (by omega) _ _ _ o1) hN hF e, pv_SC hv o2 e⟩
  · obtain ⟨n2, e3, f3, g5, g6, g7⟩ := pr_note1 (m := ν) (s := s) (by omega) s3
    rw [if_neg (show ¬ nI s = 10 by rw [l10, nI_eq (by omega) (by decide)]; exact c), e3]
    refine ⟨m5, n2, rfl, rfl, ⟨s + 1, (nx + 1) % 10, by omega, by omega, g5, by rw [q2, if_pos (by omega)], q1, fun j hj => ?_⟩, frC, f3, fun j hj => g7 j (by omega) (by omega)⟩
    by_cases cj : j = s
    · subst cj
      rw [show ((nx + 1) % 10 + 10 - (j + 1) + j) % 10 = nx by omega]
      have e : ∀ k, k < 19 → n2.1 1 (86 + 19 * j + k) = s0 k := fun k hk => by rw [g6 k hk]; exact h17 k hk
      exact ⟨pc_standC qn hN hF e, pv_SC hv hS e⟩
    · obtain ⟨o1, o2⟩ := s6 j (by omega)
      rw [show ((nx + 1) % 10 + 10 - (s + 1) + j) % 10 = (nx + 10 - s + j) % 10 by omega]
      have e : ∀ k, k < 19 → n2.1 1 (86 + 19 * j + k) = ν.1 1 (86 + 19 * j + k) := fun k hk => g7 _ (by omega) (by omega)
      exact ⟨pc_standC (qs _ (Nat.mod_lt _ (by decide)) (by omega) _ _ _ o1) hN hF e, pv_SC hv o2 e⟩
