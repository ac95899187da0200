/-! ===== 99i: atoms, both readers ===== -/
theorem pTk_2 : ∀ t, t < 44 → t ≠ 31 → (pTk t = 2 ↔ t = 29) ∧ pTk t < 256 := by decide +kernel
theorem po_n2 {B : Nat → Nat} {len p1 : Nat} {m n : zz_Mem} (h : pOK B len p1 m n) : m.1 30 4 = 2 ↔ pkK B len p1 = 29 := by
  obtain ⟨h1, h2, hp, h31, h3, h4, -⟩ := h
  have k5 := (pkE_b (B := B) hp (fun j hj => (h1.2.1 j hj).1)).2.2.2.2
  obtain ⟨a, b⟩ := pTk_2 _ k5 h31
  have l2 : (2 : Int32) = nI 2 := rfl
  rw [h4, l2, nI_eq (by omega) (by omega)]
  exact a
theorem po_num {B : Nat → Nat} {len p : Nat} (hB : ∀ j, j < len → B j < 256) (hp : p ≤ len) (h : pkK B len p = 29) : pVl B p (pkE B len p - p) < 1000 := by
  unfold pkK at h
  unfold pkE
  by_cases c : len ≤ p
  · rw [if_pos c] at h; omega
  · rw [if_neg c] at h ⊢
    by_cases d : pLt (B p) = true
    · rw [if_pos d] at h
      have := pKey_b B p (pRun pLt B (len - p) p)
      omega
    · rw [if_neg d] at h ⊢
      by_cases e : pDg (B p) = true
      · rw [if_pos e] at h ⊢
        have hr := pRun_b pDg B (len - p) p
        have h3 : pRun pDg B (len - p) p - p ≤ 3 := by
          by_cases f : pRun pDg B (len - p) p - p ≤ 3
          · exact f
          · rw [if_neg f] at h; omega
        have hv := pVl_b (B := B) (p := p) (pRun pDg B (len - p) p - p) (fun j hj => hr.2.2 (p + j) (by omega) (by omega))
        exact Nat.lt_of_lt_of_le hv (show 10 ^ (pRun pDg B (len - p) p - p) ≤ 10 ^ 3 from Nat.pow_le_pow_right (by omega) h3)
      · rw [if_neg e] at h
        have := pSt_b (B p) (hB p (by omega))
        omega
