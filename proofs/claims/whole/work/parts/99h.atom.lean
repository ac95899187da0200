/-! ===== 99h: atoms ===== -/
/-- the word's number in a law, by its key -/
def pWd (sh k : Nat) : Option Nat := if sh = 0 then (if k = 19 then some 0 else if k = 20 then some 1 else if k = 21 then some 2 else if k = 3 then some 3 else if k = 22 then some 4 else none) else (if k = 23 then some 5 else if k = 4 then some 6 else if k = 24 then some 7 else none)
theorem pWd_w : ∀ k, k < 44 → ∀ m : zz_Mem, f_X12_wordOf_12 m (nI k) 1 = some (match pWd 0 k with | some r => nI r | none => -1) ∧ f_X12_wordOf_12 m (nI k) 0 = some (match pWd 5 k with | some r => nI r | none => -1) := by
  intro k hk m
  have : ∀ k, k < 44 → f_X12_wordOf_12 zz_mem0M (nI k) 1 = some (match pWd 0 k with | some r => nI r | none => -1) ∧ f_X12_wordOf_12 zz_mem0M (nI k) 0 = some (match pWd 5 k with | some r => nI r | none => -1) := by decide +kernel
  exact this k hk
theorem pWd_0 : ∀ k, k < 44 → ∀ r, r < 8 → pWd 0 k = some r → r < 5 ∧ k ≤ 28 ∧ k ≠ 15 := by decide +kernel
theorem pWd_5 : ∀ k, k < 44 → ∀ r, r < 8 → pWd 5 k = some r → 5 ≤ r ∧ k ≤ 28 ∧ k ≠ 15 := by decide +kernel
