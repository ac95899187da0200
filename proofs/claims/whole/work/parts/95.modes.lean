/-! ===== 95: how both readers stand: at a token, before a sign that is none, or failed ===== -/
def pOK (B : Nat → Nat) (len p : Nat) (μ ν : zz_Mem) : Prop := pTxc B len μ ∧ pTxr B len ν ∧ p ≤ len ∧ pkK B len p ≠ 31 ∧ μ.1 30 3 = nI (pkE B len p) ∧ μ.1 30 4 = nI (pTk (pkK B len p)) ∧ μ.1 30 5 = nI p ∧ μ.1 30 7 = 0 ∧ ν.1 0 6 = nI p ∧ ν.1 0 7 = nI (pkE B len p) ∧ ν.1 0 9 = nI (pkK B len p) ∧ ν.1 0 11 = 0 ∧ (pkK B len p = 29 → μ.1 30 6 = nI (pVl B p (pkE B len p - p)) ∧ ν.1 0 10 = nI (pVl B p (pkE B len p - p)))
/-- the class has stopped -/
def pSto (B : Nat → Nat) (len w p : Nat) (μ : zz_Mem) : Prop := pTxc B len μ ∧ (∃ b, b ≤ len ∧ μ.1 30 3 = nI b) ∧ μ.1 30 4 = 3 ∧ (0 < w ∧ w < 5) ∧ μ.1 30 7 = nI w ∧ μ.1 30 8 = nI p
def pBad (B : Nat → Nat) (len p : Nat) (μ ν : zz_Mem) : Prop := pSto B len 1 p μ ∧ pTxr B len ν ∧ p ≤ len ∧ ν.1 0 6 = nI p ∧ ν.1 0 9 = nI 31 ∧ ν.1 0 11 = 0
def pFld (B : Nat → Nat) (len w p : Nat) (μ ν : zz_Mem) : Prop := pSto B len w p μ ∧ ν.1 0 11 = nI w ∧ ν.1 0 12 = nI p
/-- what stays in the reference -/
def pNz (ν ν' : zz_Mem) : Prop := pq_fr [0] ν ν' ∧ ν'.2 = ν.2 ∧ ∀ j, j < 6 ∨ j = 8 ∨ 12 < j → ν'.1 0 j = ν.1 0 j
theorem pNz0 (ν : zz_Mem) : pNz ν ν := ⟨pq_fr0 ν, rfl, fun _ _ => rfl⟩
theorem pNzT {μ μ1 μ2 : zz_Mem} (h : pNz μ μ1) (g : pNz μ1 μ2) : pNz μ μ2 := ⟨pq_frT h.1 g.1, g.2.1.trans h.2.1, fun j a => (g.2.2 j a).trans (h.2.2 j a)⟩
theorem pNz_y {ν ν' : zz_Mem} (h : pNy ν ν') : pNz ν ν' := ⟨h.1, h.2.1, fun j a => h.2.2 j (by omega) (by omega) (by omega) (by omega)⟩
theorem pNzS (ν : zz_Mem) {i : Nat} (hi : 6 ≤ i ∧ i ≤ 12 ∧ i ≠ 8) (v : Int32) : pNz ν (zz_setI ν 0 i v) := ⟨pq_frI (pq_fr0 ν) _ _ (by simp), rfl, fun j a => qx_isN (by omega)⟩
theorem pTxr_Z {B : Nat → Nat} {len : Nat} {ν ν' : zz_Mem} (h : pTxr B len ν) (g : pNz ν ν') : pTxr B len ν' := ⟨h.1, fun j hj => by rw [(g.1 3 (by simp)).1]; exact h.2.1 j hj, (g.2.2 8 (by omega)).trans h.2.2⟩
/-- a word of the class -/
theorem pc_isW {B : Nat → Nat} {len p : Nat} {μ ν : zz_Mem} (h : pOK B len p μ ν) {w : Nat} (hw : w < 29) (hw0 : 0 < w) : f_X7_isWord w μ = some (pd_b (decide (pkK B len p = pWk w))) := by
  have hfu : zz_fuel = 5000 := rfl
  obtain ⟨h1, h2, hp, h31, h3, h4, h5, h7, -⟩ := h
  have h9 := h1.1
  obtain ⟨w1, w2⟩ := pw_wl w hw hw0
  have l1 : (1 : Int32) = nI 1 := rfl
  have hB : ∀ j, j < len → B j < 256 := fun j hj => (h1.2.1 j hj).1
  obtain ⟨k1, k2, k3, k4, k5⟩ := pkE_b (B := B) hp hB
  obtain ⟨t1, t0, t2, t3, t4, t5, t6⟩ := pw_tab (pWk w) w2
  unfold f_X7_isWord
  rw [h4]
  by_cases c : pkK B len p ≤ 28
  · have hlen : ¬ len ≤ p := fun z => by have := k4.mpr z; omega
    have hpl : pLt (B p) = true := by
      unfold pkK at c
      rw [if_neg hlen] at c
      by_cases d : pLt (B p) = true
      · exact d
      · rw [if_neg d] at c
        by_cases e : pDg (B p) = true
        · rw [if_pos e] at c; split at c <;> omega
        · rw [if_neg e] at c
          have := pSt_b (B p) (hB p (by omega))
          omega
    have eK : pkK B len p = pKey B p (pkE B len p) := by
      unfold pkK pkE
      rw [if_neg hlen, if_neg hlen, if_pos hpl, if_pos hpl]
    rw [pTk, if_pos c, if_pos (show nI 1 = 1 from rfl), pw_len w (by omega), pq_bndS, h3, h5, pk_sub k1, w1]
    by_cases d : pkE B len p = p + (pKw (pWk w)).length
    · rw [if_pos (by rw [d, Nat.add_sub_cancel_left])]
      have loop : ∀ (r i fuel : Nat), i + r = (pKw (pWk w)).length → r < fuel → (∀ j, j < i → B (p + j) = (pKw (pWk w)).getD j 0) → f_X7_isWord_28 w μ fuel (nI i) = some (pd_b (decide (pkK B len p = pWk w))) := by
        intro r
        induction r with
        | zero =>
          intro i fuel g1 g2 g3
          obtain ⟨fu, rfl⟩ : ∃ n, fuel = n + 1 := ⟨fuel - 1, by omega⟩
          obtain rfl : i = (pKw (pWk w)).length := by omega
          rw [f_X7_isWord_28, pw_len w (by omega), pq_bndS, w1, if_pos (Int32.le_refl _)]
          have : pkK B len p = pWk w := by rw [eK]; exact (pKey_i w2).mp (pMt_d.mpr ⟨d, g3⟩)
          rw [decide_eq_true this]; rfl
        | succ r ih =>
          intro i fuel g1 g2 g3
          obtain ⟨fu, rfl⟩ : ∃ n, fuel = n + 1 := ⟨fuel - 1, by omega⟩
          obtain ⟨u1, u2, u3⟩ := t6 i (by omega)
          have hb := hB (p + i) (by omega)
          rw [f_X7_isWord_28, pw_len w (by omega), pq_bndS, w1, if_neg (nI_ge (by omega) (by omega)), h5, nI_add, pc_byte h1 (by omega), pq_bndS, if_pos (by omega), pw_wc w hw hw0 i (by omega) (by omega), pq_bndS]
          by_cases e : B (p + i) = (pKw (pWk w)).getD i 0
          · rw [if_pos (by rw [e]), pq_letI, nI_1]
            exact ih (i + 1) fu (by omega) (by omega) (fun j hj => by
              by_cases cj : j = i
              · rw [cj]; exact e
              · exact g3 j (by omega))
          · rw [if_neg (by rw [nI_eq (by omega) (by omega)]; exact e)]
            have : ¬ pkK B len p = pWk w := fun z => by
              rw [eK] at z
              exact e ((pMt_d.mp ((pKey_i w2).mpr z)).2 i (by omega))
            rw [decide_eq_false this]; rfl
      exact loop (pKw (pWk w)).length 0 zz_fuel (by omega) (by omega) (fun j hj => absurd hj (Nat.not_lt_zero _))
    · rw [if_neg (by rw [nI_eq (by omega) (by omega)]; omega)]
      have : ¬ pkK B len p = pWk w := fun z => by
        rw [eK] at z
        exact d (pMt_d.mp ((pKey_i w2).mpr z)).1
      rw [decide_eq_false this]; rfl
  · have hne : pTk (pkK B len p) ≠ 1 ∧ pTk (pkK B len p) < 256 := by
      have : ∀ t, t < 44 → ¬ t ≤ 28 → t ≠ 31 → pTk t ≠ 1 ∧ pTk t < 256 := by decide +kernel
      exact this _ k5 c h31
    rw [l1, if_neg (by rw [nI_eq (by omega) (by omega)]; exact hne.1), decide_eq_false (by omega)]; rfl
theorem pc_isW0 {B : Nat → Nat} {len w0 p : Nat} {μ : zz_Mem} (h : pSto B len w0 p μ) (w : Nat) : f_X7_isWord w μ = some 0 := by
  unfold f_X7_isWord
  rw [h.2.2.1, if_neg (by decide)]
theorem pr_isO {B : Nat → Nat} {len p : Nat} {μ ν : zz_Mem} (h : pOK B len p μ ν) {k : Nat} (hk : k < 44) : f_X12_is ν (nI k) = some (pd_b (decide (pkK B len p = k))) := by
  obtain ⟨h1, h2, hp, h31, h3, h4, h5, h7, h6, h7', h9, h11, -⟩ := h
  have k5 := (pkE_b (B := B) hp (fun j hj => (h1.2.1 j hj).1)).2.2.2.2
  unfold f_X12_is
  rw [h11, if_pos rfl, h9]
  by_cases c : pkK B len p = k
  · rw [c, if_pos rfl, decide_eq_true rfl]; rfl
  · rw [if_neg (by rw [nI_eq (by omega) (by omega)]; exact c), decide_eq_false c]; rfl
theorem pr_isB {B : Nat → Nat} {len p : Nat} {μ ν : zz_Mem} (h : pBad B len p μ ν) {k : Nat} (hk : k < 44) (hk2 : k ≠ 31) : f_X12_is ν (nI k) = some 0 := by
  unfold f_X12_is
  rw [h.2.2.2.2.2, if_pos rfl, h.2.2.2.2.1, if_neg (by rw [nI_eq (by omega) (by omega)]; omega)]
theorem pr_n0 {w : Nat} (h : 0 < w ∧ w < 5) : ¬ nI w = (0 : Int32) := fun z => by
  have l : (0 : Int32) = nI 0 := rfl
  rw [l, nI_eq (by omega) (by omega)] at z
  omega
theorem pr_isF {B : Nat → Nat} {len w p : Nat} {μ ν : zz_Mem} (h : pFld B len w p μ ν) (k : Int32) : f_X12_is ν k = some 0 := by
  unfold f_X12_is
  rw [h.2.1, if_neg (pr_n0 h.1.2.2.2.1)]
/-- both go on -/
theorem pj_next {B : Nat → Nat} {len p : Nat} {μ ν : zz_Mem} (h : pOK B len p μ ν) : ∃ μ' ν' p', f_X7_next μ = some μ' ∧ f_X12_next ν = some ν' ∧ pNx μ μ' ∧ pNy ν ν' ∧ pkE B len p ≤ p' ∧ p' ≤ len ∧ (pOK B len p' μ' ν' ∨ pBad B len p' μ' ν') := by
  obtain ⟨h1, h2, hp, h31, h3, h4, h5, h7, h6, h7', h9, h11, hv⟩ := h
  obtain ⟨k1, k2, k3, k4, k5⟩ := pkE_b (B := B) hp (fun j hj => (h1.2.1 j hj).1)
  obtain ⟨μ', y1, y2, y3, y4⟩ := pc_next h1 k2 h3 h7
  obtain ⟨ν', z1, z2, z3, z4, z5, z6⟩ := pr_next h2 k2 h7'
  have hp' := pkP_b (B := B) k2
  have e11 : ν'.1 0 11 = 0 := (z2.2.2 11 (by decide) (by decide) (by decide) (by decide)).trans h11
  refine ⟨μ', ν', _, y1, z1, y2, z2, hp'.1, hp'.2, ?_⟩
  rcases y4 with ⟨q1, q2, q3, q4, q5⟩ | ⟨q1, q2, q3, q4, q5⟩
  · exact Or.inl ⟨pTxc_N h1 y2, pTxr_N h2 z2, hp'.2, q1, q2, q3, y3, q4, z3, z4, z5, e11, fun e => ⟨q5 e, z6 e⟩⟩
  · rw [q1] at z5
    exact Or.inr ⟨⟨pTxc_N h1 y2, q2, q3, by omega, q4, q5⟩, pTxr_N h2 z2, hp'.2, z3, z5, e11⟩
theorem pc_fail {B : Nat → Nat} {len p w w0 : Nat} {μ : zz_Mem} (h : pSto B len w p μ) : ∃ μ', f_X7_fail (nI w0) μ = some μ' ∧ pNx μ μ' ∧ pSto B len w p μ' := by
  obtain ⟨h1, ⟨b, hb, h3⟩, h4, hw, h7, h8⟩ := h
  unfold f_X7_fail f_X7_fail_20
  rw [h7, if_neg (pr_n0 hw), pq_letM]
  have n := pNxS μ (i := 4) (by decide) (by decide) 3
  exact ⟨_, rfl, n, pTxc_N h1 n, ⟨b, hb, by rw [qx_isN (by decide)]; exact h3⟩, qx_isE, hw, by rw [qx_isN (by decide)]; exact h7, by rw [qx_isN (by decide)]; exact h8⟩
/-- both fail -/
theorem pj_failO {B : Nat → Nat} {len p w : Nat} {μ ν : zz_Mem} (h : pOK B len p μ ν) (hw : 0 < w ∧ w < 5) : ∃ μ' ν', f_X7_fail (nI w) μ = some μ' ∧ f_X12_fails (nI w) ν = some ν' ∧ pNx μ μ' ∧ pNz ν ν' ∧ pFld B len w p μ' ν' := by
  obtain ⟨h1, h2, hp, h31, h3, h4, h5, h7, h6, h7', h9, h11, hv⟩ := h
  obtain ⟨k1, k2, k3, k4, k5⟩ := pkE_b (B := B) hp (fun j hj => (h1.2.1 j hj).1)
  have l31 : (31 : Int32) = nI 31 := rfl
  unfold f_X7_fail f_X7_fail_20 f_X12_fails f_X12_fails_23
  rw [if_pos h7, pq_letM, pq_letM, pq_letM, if_pos h11, h9, l31, if_neg (by rw [nI_eq (by omega) (by omega)]; exact h31), pq_letM, pq_letM]
  have n : pNx μ (zz_setI (zz_setI (zz_setI μ 30 7 (nI w)) 30 8 ((zz_setI μ 30 7 (nI w)).1 30 5)) 30 4 3) := pNxT (pNxF μ (pr_n0 hw) _) (pNxS _ (by decide) (by decide) _)
  have n2 : pNz ν (zz_setI (zz_setI ν 0 11 (nI w)) 0 12 ((zz_setI ν 0 11 (nI w)).1 0 6)) := pNzT (pNzS ν (by decide) _) (pNzS _ (by decide) _)
  refine ⟨_, _, rfl, rfl, n, n2, ⟨pTxc_N h1 n, ⟨_, k2, ?_⟩, qx_isE, hw, ?_, ?_⟩, ?_, ?_⟩
  · rw [qx_isN (by decide), qx_isN (by decide), qx_isN (by decide)]; exact h3
  · rw [qx_isN (by decide), qx_isN (by decide), qx_isE]
  · rw [qx_isN (by decide), qx_isE, qx_isN (by decide)]; exact h5
  · rw [qx_isN (by decide), qx_isE]
  · rw [qx_isE, qx_isN (by decide)]; exact h6
theorem pr_failB {B : Nat → Nat} {len p : Nat} (w : Nat) {μ ν : zz_Mem} (h : pBad B len p μ ν) : ∃ ν', f_X12_fails (nI w) ν = some ν' ∧ pNz ν ν' ∧ ν'.1 0 11 = nI 1 ∧ ν'.1 0 12 = nI p := by
  obtain ⟨h1, h2, hp, h6, h9, h11⟩ := h
  unfold f_X12_fails f_X12_fails_23
  rw [if_pos h11, h9, if_pos (show nI 31 = 31 from rfl), pq_letM, pq_letM]
  refine ⟨_, rfl, pNzT (pNzS ν (by decide) _) (pNzS _ (by decide) _), ?_, ?_⟩
  · rw [qx_isN (by decide), qx_isE]; rfl
  · rw [qx_isE, qx_isN (by decide)]; exact h6
theorem pr_failF {B : Nat → Nat} {len p w0 : Nat} (w : Int32) {μ ν : zz_Mem} (h : pFld B len w0 p μ ν) : f_X12_fails w ν = some ν := by
  unfold f_X12_fails
  rw [h.2.1, if_neg (pr_n0 h.1.2.2.2.1)]
