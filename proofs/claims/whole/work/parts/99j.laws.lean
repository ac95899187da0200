/-! ===== 99j: the laws, whole ===== -/
theorem pg_all {B : Nat → Nat} {len sh lo hi : Nat} : ∀ (k dd n n' : Nat), dd + k = 6 → 
    pGr B len sh lo hi false (5 * k + 3) (grp_X7 (n + 8 * k + 3) 0 (nI dd)) (grp_X12 (n' + 8 * k + 4) 0 (nI dd)) ∧ pGr B len sh lo hi true (5 * k + 4) (grp_X7 (n + 8 * k + 5) 6 (nI dd)) (grp_X12 (n' + 8 * k + 5) 6 (nI dd)) ∧ pGr B len sh lo hi true (5 * k + 6) (grp_X7 (n + 8 * k + 7) 4 (nI dd)) (grp_X12 (n' + 8 * k + 7) 4 (nI dd)) := by
  intro k
  induction k with
  | zero =>
    intro dd n n' hd
    sorry
  | succ k ih =>
    intro dd n n' hd
    sorry
