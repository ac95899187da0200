/-! ===== 88: the class goes through the lots ===== -/
theorem pi_mulS (b : Int32) (k : Nat) : b * nI (k + 1) = b * nI k + b := by rw [← nI_1, Int32.mul_add, Int32.mul_one]
theorem pDl_len (s : Nat) : ∀ n q, (pDl s n q).length = n := by
  intro n
  induction n with
  | zero => intro q; rfl
  | succ n ih => intro q; rw [pDl, List.length_cons, ih]
theorem pDl_b {s : Nat} (hs : 0 < s) : ∀ n q x, x ∈ pDl s n q → x < s := by
  intro n
  induction n with
  | zero => intro q x h; simp [pDl] at h
  | succ n ih =>
    intro q x h
    rw [pDl, List.mem_cons] at h
    rcases h with h | h
    · rw [h]; exact Nat.mod_lt _ hs
    · exact ih _ x h
theorem pc_draw {s n : Nat} (hs : 0 < s) (hs9 : s ≤ 9) (hn : n ≤ 3) : ∀ (r k q p fuel : Nat) (m : zz_Mem), k + r = n → r < fuel → q < 1000 → p < 9 → (k = 0 → p = 0) → (0 < k → m.1 97 (k - 1) = nI p) → ∃ m', f_X4_drawInOrder_6 fuel (nI s) (nI n) (nI q) (nI k) m = some (pd_b (pOrd p (pDl s r q)), m') ∧ pq_fr [97] m m' ∧ (∀ j, j < k → m'.1 97 j = m.1 97 j) ∧ (pOrd p (pDl s r q) = true → ∀ j, j < r → m'.1 97 (k + j) = nI ((pDl s r q).getD j 0)) := by
  intro r
  induction r with
  | zero =>
    intro k q p fuel m h1 h2 h3 h4 h5 h6
    obtain ⟨fu, rfl⟩ : ∃ n, fuel = n + 1 := ⟨fuel - 1, by omega⟩
    rw [f_X4_drawInOrder_6, if_pos (nI_le (by omega) (by omega))]
    exact ⟨m, rfl, pq_fr0 m, fun _ _ => rfl, fun _ j hj => absurd hj (Nat.not_lt_zero _)⟩
  | succ r ih =>
    intro k q p fuel m h1 h2 h3 h4 h5 h6
    obtain ⟨fu, rfl⟩ : ∃ n, fuel = n + 1 := ⟨fuel - 1, by omega⟩
    have l3 : (3 : Int32) = nI 3 := rfl
    have hm := Nat.mod_lt q hs
    have hd := Nat.div_le_self q s
    have hnz : ¬ nI s = 0 := fun e => by
      have l0 : (0 : Int32) = nI 0 := rfl
      rw [l0, nI_eq (by omega) (by omega)] at e
      omega
    rw [f_X4_drawInOrder_6, if_neg (nI_ge (by omega) (by omega)), l3, if_neg (nI_ge (by omega) (by omega)), if_neg (nI_nle (by omega) (by omega)), pq_nzE hnz, pk_rem (by omega) hs (by omega)]
    simp (disch := omega) only [qx_ix, qx_cl]
    rw [pq_letM, pq_nzE hnz, pk_div (by omega) hs (by omega), pq_letI, pDl, pOrd]
    have f1 : pq_fr [97] m (zz_setI m 97 k (nI (q % s))) := pq_frI (pq_fr0 m) _ _ (by simp)
    have go : p ≤ q % s → ∃ m', f_X4_drawInOrder_6 fu (nI s) (nI n) (nI (q / s)) (nI (k + 1)) (zz_setI m 97 k (nI (q % s))) = some (pd_b (decide (p ≤ q % s) && pOrd (q % s) (pDl s r (q / s))), m') ∧ pq_fr [97] m m' ∧ (∀ j, j < k → m'.1 97 j = m.1 97 j) ∧ ((decide (p ≤ q % s) && pOrd (q % s) (pDl s r (q / s))) = true → ∀ j, j < r + 1 → m'.1 97 (k + j) = nI ((q % s :: pDl s r (q / s)).getD j 0)) := by
      intro hp
      obtain ⟨m', y1, y2, y3, y4⟩ := ih (k + 1) (q / s) (q % s) fu (zz_setI m 97 k (nI (q % s))) (by omega) (by omega) (by omega) (by omega) (fun z => absurd z (by omega)) (fun _ => by rw [Nat.add_sub_cancel, qx_isE])
      rw [decide_eq_true hp, Bool.true_and]
      refine ⟨m', y1, pq_frT f1 y2, fun j hj => by rw [y3 j (by omega), qx_isN (by omega)], fun h j hj => ?_⟩
      cases j with
      | zero => rw [Nat.add_zero, y3 k (by omega), qx_isE]; rfl
      | succ j => rw [show k + (j + 1) = k + 1 + j by omega, y4 h j (by omega)]; rfl
    by_cases ck : k = 0
    · rw [if_pos (by rw [ck]; decide), nI_1]
      exact go (by rw [h5 ck]; omega)
    · rw [if_neg (nI_nle (by omega) (by omega)), show (nI k - 1) = nI (k - 1) from pk_sub (b := 1) (by omega)]
      simp (disch := omega) only [qx_ix, qx_cl]
      rw [qx_isE, qx_isN (show k - 1 ≠ k by omega), h6 (by omega)]
      by_cases c : p ≤ q % s
      · rw [if_pos (nI_le c (by omega)), nI_1]; exact go c
      · rw [if_neg (nI_ge (by omega) (by omega)), decide_eq_false c, Bool.false_and]
        exact ⟨_, rfl, f1, fun j hj => qx_isN (by omega), fun h => absurd h (by decide)⟩
theorem pc_orders {n : Nat} (hn : n ≤ 3) {m : zz_Mem} {G : Nat → Nat} (h : ∀ j, j < n → m.1 97 j = nI (G j) ∧ G j < 10) : f_X4_orders m (nI n) = some (lI (pOw n G : Int)) := by
  have hz : zz_fuel = 4997 + 1 + 1 + 1 := rfl
  have l2 : (2 : Int32) = nI 2 := rfl
  have l1 : (1 : Int32) = nI 1 := rfl
  have l0 : (0 : Int32) = nI 0 := rfl
  have eq : ∀ i j, i < n → j < n → (m.1 97 i = m.1 97 j ↔ G i = G j) := fun i j hi hj => by
    rw [(h i hi).1, (h j hj).1, nI_eq (by have := (h i hi).2; omega) (by have := (h j hj).2; omega)]
  unfold f_X4_orders
  by_cases c : n < 2
  · rw [l2, if_neg (nI_ge (by omega) (by omega)), pOw, if_pos c]; rfl
  · by_cases c2 : n = 2
    · subst c2
      rw [if_pos (by decide), hz, pOw, if_neg (by omega), if_pos rfl, f_X4_orders_11, if_neg (by decide)]
      rw [show ((1 : Int32) - 1) = nI 0 from rfl, l1]
      simp (disch := omega) only [qx_ix, qx_cl]
      by_cases d : G 1 = G 0
      · rw [if_pos ((eq 1 0 (by omega) (by omega)).mpr d), if_pos d, pq_letI, pq_letI, f_X4_orders_11, if_pos (by decide)]; rfl
      · rw [if_neg (fun z => d ((eq 1 0 (by omega) (by omega)).mp z)), if_neg d, pq_letI, f_X4_orders_11, if_pos (by decide)]; rfl
    · obtain rfl : n = 3 := by omega
      rw [if_pos (by decide), hz, pOw, if_neg (by omega), if_neg (by omega), f_X4_orders_11, if_neg (by decide)]
      rw [show ((1 : Int32) - 1) = nI 0 from rfl, l1]
      simp (disch := omega) only [qx_ix, qx_cl]
      by_cases d : G 1 = G 0
      · rw [if_pos ((eq 1 0 (by omega) (by omega)).mpr d), if_pos d, pq_letI, pq_letI, f_X4_orders_11, if_neg (by decide), show nI 1 + nI 1 - 1 = nI 1 from rfl, show nI 1 + nI 1 = nI 2 from rfl]
        simp (disch := omega) only [qx_ix, qx_cl]
        by_cases e : G 2 = G 1
        · rw [if_pos ((eq 2 1 (by omega) (by omega)).mpr e), if_pos e, pq_letI, pq_letI, f_X4_orders_11, if_pos (by decide)]; rfl
        · rw [if_neg (fun z => e ((eq 2 1 (by omega) (by omega)).mp z)), if_neg e, pq_letI, f_X4_orders_11, if_pos (by decide)]; rfl
      · rw [if_neg (fun z => d ((eq 1 0 (by omega) (by omega)).mp z)), if_neg d, pq_letI, f_X4_orders_11, if_neg (by decide), show nI 1 + nI 1 - 1 = nI 1 from rfl, show nI 1 + nI 1 = nI 2 from rfl]
        simp (disch := omega) only [qx_ix, qx_cl]
        by_cases e : G 2 = G 1
        · rw [if_pos ((eq 2 1 (by omega) (by omega)).mpr e), if_pos e, pq_letI, pq_letI, f_X4_orders_11, if_pos (by decide)]; rfl
        · rw [if_neg (fun z => e ((eq 2 1 (by omega) (by omega)).mp z)), if_neg e, pq_letI, f_X4_orders_11, if_pos (by decide)]; rfl
