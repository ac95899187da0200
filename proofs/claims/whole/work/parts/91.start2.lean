/-! ===== 91: the start ===== -/
theorem pr_plain {a0 na0 : Nat} (h : 1177 ≤ na0) (h2 : na0 < 2147483648) (m : zz_Mem) : ∃ m', f_X12_plain a0 na0 m = some m' ∧ pq_fr [a0] m m' ∧ m'.2 = m.2 ∧ (∀ j, j < 1177 → m'.1 a0 j = 0) ∧ ∀ j, 1177 ≤ j → m'.1 a0 j = m.1 a0 j := by
  have hfu : zz_fuel = 5000 := rfl
  have l : (1177 : Int32) = nI 1177 := rfl
  have loop : ∀ (r k fuel : Nat) (m1 : zz_Mem), k + r = 1177 → r < fuel → pq_fr [a0] m m1 → m1.2 = m.2 → (∀ j, j < k → m1.1 a0 j = 0) → (∀ j, 1177 ≤ j → m1.1 a0 j = m.1 a0 j) → ∃ m', f_X12_plain_2 a0 na0 fuel (nI k) m1 = some m' ∧ pq_fr [a0] m m' ∧ m'.2 = m.2 ∧ (∀ j, j < 1177 → m'.1 a0 j = 0) ∧ ∀ j, 1177 ≤ j → m'.1 a0 j = m.1 a0 j := by
    intro r
    induction r with
    | zero =>
      intro k fuel m1 h1 h2 f f2 h3 h4
      obtain ⟨fu, rfl⟩ : ∃ n, fuel = n + 1 := ⟨fuel - 1, by omega⟩
      rw [f_X12_plain_2, l, if_pos (nI_le (by omega) (by omega))]
      exact ⟨m1, rfl, f, f2, fun j hj => h3 j (by omega), h4⟩
    | succ r ih =>
      intro k fuel m1 h1 h2 f f2 h3 h4
      obtain ⟨fu, rfl⟩ : ∃ n, fuel = n + 1 := ⟨fuel - 1, by omega⟩
      rw [f_X12_plain_2, l, if_neg (nI_ge (by omega) (by omega)), pq_ixE (by omega) (by omega), nI_clamp (by omega), pq_letM, pq_letI, nI_1]
      exact ih (k + 1) fu _ (by omega) (by omega) (pq_frI f _ _ (by simp)) f2 (fun j hj => by
        by_cases c : j = k
        · rw [c, qx_isE]
        · rw [qx_isN c]; exact h3 j (by omega)) (fun j hj => by rw [qx_isN (by omega)]; exact h4 j hj)
  have := loop 1177 0 zz_fuel m (by omega) (by omega) (pq_fr0 m) rfl (fun j hj => absurd hj (Nat.not_lt_zero _)) (fun _ _ => rfl)
  rw [nI_0] at this
  exact this
def pz_a : Nat → Int32 := fun _ => 0
theorem pz_D : pv_D pz_a := ⟨⟨rfl, by decide⟩, ⟨rfl, by decide⟩, ⟨rfl, by decide⟩, ⟨rfl, by decide⟩, ⟨rfl, by decide⟩, ⟨rfl, by decide⟩, ⟨Or.inl rfl, fun h => absurd h (by decide)⟩, ⟨Or.inl rfl, fun h => absurd h (by decide)⟩, fun i hi => absurd hi (Nat.not_lt_zero _), fun k hk => absurd hk (Nat.not_lt_zero _)⟩
theorem pz_same {m : zz_Mem} {k i : Nat} {v : Int32} (h : m.1 k i = v) : zz_setI m k i v = m := by
  have e : (zz_setI m k i v).1 = m.1 := by
    funext k'
    by_cases c : k' = k
    · subst c
      funext j
      by_cases d : j = i
      · subst d; rw [qx_isE, h]
      · rw [qx_isN d]
    · rw [qx_in c]
  exact Prod.ext e rfl
theorem pI_refs : zL_refs pI := by
  intro n μ ν ⟨a, hv, hS, hc, hr, x1, x2, x3, x4, x5, q1, q2, q3, q4, q5⟩
  refine ⟨q1, fun j o h => ?_, q2⟩
  by_cases c : j < 2
  · rcases x3 j c with ⟨y, -⟩ | ⟨o', y1, y2, y3, -⟩
    · rw [y] at h; exact absurd h (by simp)
    · rw [y1] at h
      obtain rfl : o' = o := by simpa using h
      exact y3
  · rw [q4 j (by omega)] at h
    exact absurd h (by simp)
theorem pI_start : ∃ m1 n0 n1, f_X8_lay zz_mem0C = some m1 ∧ f_X12_plain 1 3531 zz_mem0M = some n0 ∧ f_X12_laysDays n0 = some n1 ∧ pI 107 m1 n1 := by
  obtain ⟨n0, e0, f0, g0, r0, s0⟩ := pr_plain (a0 := 1) (na0 := 3531) (by omega) (by omega) zz_mem0M
  have r1 : ∀ j, n0.1 1 j = 0 := fun j => by
    by_cases c : j < 1177
    · exact r0 j c
    · rw [s0 j (by omega)]; rfl
  have hst : pr_st n0 = fun _ => 0 := funext (fun k => r1 _)
  have hp : pc_plan zz_mem0C 2 pz_a := ⟨rfl, rfl, rfl, rfl, rfl, rfl, fun k hk => absurd hk (Nat.not_lt_zero _), fun k hk => absurd hk (Nat.not_lt_zero _), fun k hk => absurd hk (Nat.not_lt_zero _), ⟨fun _ => rfl, fun h => absurd h (by decide)⟩, ⟨fun _ => rfl, fun h => absurd h (by decide)⟩⟩
  have hs : pc_stand zz_mem0C 13 (pN pz_a) (pF pz_a) (pr_st n0) := by
    rw [hst]
    exact ⟨rfl, fun k hk => absurd hk (Nat.not_lt_zero _), fun k hk => absurd hk (Nat.not_lt_zero _)⟩
  have hSS : pv_S pz_a (pr_st n0) := ⟨fun i hi => absurd hi (Nat.not_lt_zero _), fun i hi => absurd hi (Nat.not_lt_zero _)⟩
  have hfb : ∀ o, o = 83 ∨ o = 88 → pc_fb zz_mem0C o := fun o ho => ⟨fun _ => 0, fun j hj => ⟨Int.le_refl _, show (0 : Int) ≤ 1000000000 by decide, by rcases ho with rfl | rfl <;> rfl⟩⟩
  have hx : pI_x 107 zz_mem0C n0 pz_a := by
    refine ⟨⟨0, 0, by omega, by omega, r1 85, rfl, rfl, fun j hj => absurd hj (Nat.not_lt_zero _)⟩, fun t ht => Or.inl ⟨?_, ?_⟩, fun i hi => Or.inl ⟨rfl, ?_⟩, ⟨0, by omega, rfl, ?_, fun j hj => absurd hj (Nat.not_lt_zero _)⟩, ⟨?_, ?_⟩, Or.inl rfl, fun o h => ?_, Or.inl rfl, fun j hj => rfl, fun _ => ⟨rfl, rfl⟩, fun h => absurd h (by decide), fun h => absurd h (by decide)⟩
    · have : t = 0 ∨ t = 1 ∨ t = 2 ∨ t = 3 := by omega
      rcases this with rfl | rfl | rfl | rfl <;> rfl
    · rw [(f0 23 (by simp)).1]
      have : t = 0 ∨ t = 1 ∨ t = 2 ∨ t = 3 := by omega
      rcases this with rfl | rfl | rfl | rfl <;> rfl
    · rw [(f0 2 (by simp)).1]; rfl
    · rw [(f0 0 (by simp)).1]; rfl
    · rw [(f0 0 (by simp)).1]; rfl
    · rw [(f0 0 (by simp)).1]; rfl
    · have e : zz_mem0C.2.2 30 1 = some 31 := rfl
      rw [e] at h
      obtain rfl : 31 = o := by simpa using h
      omega
  obtain ⟨m2, ν2, w1, w2, w3, w4, w5⟩ := pi_lay (n := 107) (m1 := zz_mem0C) (ν1 := n0) (a := pz_a) pz_D hp hs hSS (hfb 83 (Or.inl rfl)) (hfb 88 (Or.inr rfl)) (fun j hj => r1 j) hx
  obtain ⟨m2', e1, f1, -⟩ := pc_lay pz_D (m := zz_mem0C) hp
  rw [w1] at e1
  obtain rfl : m2 = m2' := by simpa using e1
  rw [pz_same (by rw [(f1 0 (by simp)).1]; rfl)] at w3
  exact ⟨m2, n0, ν2, w1, e0, w2, w3⟩
