/-! ===== 86: lots, as lists ===== -/
def pSm {α : Type} (f : α → Int64) : List α → Int64
  | [] => 0
  | x :: l => f x + pSm f l
theorem pSm_app {α : Type} (f : α → Int64) (l l' : List α) : pSm f (l ++ l') = pSm f l + pSm f l' := by
  induction l with
  | nil => show pSm f l' = 0 + pSm f l'; rw [Int64.zero_add]
  | cons x l ih => show f x + pSm f (l ++ l') = f x + pSm f l + pSm f l'; rw [ih, Int64.add_assoc]
theorem pSm_perm {α : Type} (f : α → Int64) {l l' : List α} (h : l.Perm l') : pSm f l = pSm f l' := by
  induction h with
  | nil => rfl
  | cons x _ ih => show f x + _ = f x + _; rw [ih]
  | swap x y l => show f y + (f x + _) = f x + (f y + _); rw [← Int64.add_assoc, ← Int64.add_assoc, Int64.add_comm (f y)]
  | trans _ _ h1 h2 => exact h1.trans h2
def pSn : List (List Nat × Nat) → Nat
  | [] => 0
  | x :: l => x.2 + pSn l
/-- the number of ways to choose, as the reference makes it -/
def pCh (left : Nat) : Nat → Nat
  | 0 => 1
  | n + 1 => pCh left n * (left - n) / (n + 1)
def pRl (I : Nat) : Nat → Nat → Nat → List Nat → List (List Nat × Nat)
  | 0, left, w, o => [(o, w * (10 - I) ^ left)]
  | r + 1, left, w, o => (List.range' 0 (left + 1)).flatMap fun n => pRl I r (left - n) (w * pCh left n) (o ++ [n])
/-- the lots drawn, as the class tells them by a number -/
def pDl (s : Nat) : Nat → Nat → List Nat
  | 0, _ => []
  | n + 1, q => (q % s) :: pDl s n (q / s)
def pOrd : Nat → List Nat → Bool
  | _, [] => true
  | p, x :: l => decide (p ≤ x) && pOrd x l
def pOw (n : Nat) (G : Nat → Nat) : Nat := if n < 2 then 1 else if n = 2 then (if G 1 = G 0 then 1 else 2) else if G 1 = G 0 then (if G 2 = G 1 then 1 else 3) else if G 2 = G 1 then 3 else 6
def pDr (I n q : Nat) : List (List Nat × Nat) := if pOrd 0 (pDl (I + 1) n q) then [((List.range I).map (fun i => (pDl (I + 1) n q).count i), pOw n (fun j => (pDl (I + 1) n q).getD j 0) * (10 - I) ^ (pDl (I + 1) n q).count I)] else []
def pKl (I n q r : Nat) : List (List Nat × Nat) := (List.range' q r).flatMap (pDr I n)
theorem pK_ok : ∀ I, I < 9 → ∀ n, n < 4 → (pRl I I n 1 []).isPerm (pKl I n 0 ((I + 1) ^ n)) = true ∧ pSn (pKl I n 0 ((I + 1) ^ n)) = 10 ^ n := by decide +kernel
theorem pK_perm {I n : Nat} (hI : I ≤ 8) (hn : n ≤ 3) : (pRl I I n 1 []).Perm (pKl I n 0 ((I + 1) ^ n)) := List.isPerm_iff.mp (pK_ok I (by omega) n (by omega)).1
theorem pK_sum {I n : Nat} (hI : I ≤ 8) (hn : n ≤ 3) : pSn (pKl I n 0 ((I + 1) ^ n)) = 10 ^ n := (pK_ok I (by omega) n (by omega)).2
theorem pSm_n (L : List (List Nat × Nat)) : pSm (fun x => lI (x.2 : Int)) L = lI (pSn L : Int) := by
  induction L with
  | nil => rfl
  | cons x l ih => show lI _ + _ = _; rw [ih, lI_add]; exact congrArg lI (by rw [pSn]; omega)
theorem pSm_b {f : List Nat × Nat → Int64} {B : Nat} (h : ∀ x, ∃ z : Int, f x = lI z ∧ z.natAbs ≤ x.2 * B) (L : List (List Nat × Nat)) : ∃ z : Int, pSm f L = lI z ∧ z.natAbs ≤ pSn L * B := by
  induction L with
  | nil => exact ⟨0, rfl, by simp⟩
  | cons x l ih =>
    obtain ⟨z, z1, z2⟩ := ih
    obtain ⟨y, y1, y2⟩ := h x
    refine ⟨y + z, by rw [pSm, z1, y1, lI_add], ?_⟩
    rw [pSn, Nat.add_mul]
    omega
def pCo (c : Nat → Nat) (b : Int32) (o : List Nat) : Nat → Nat := fun i => pg_cl (nI (c i) + b * nI (o.getD i 0))
theorem pCo_b (c : Nat → Nat) (b : Int32) (o : List Nat) (i : Nat) : pCo c b o i ≤ 999 := pg_clB _
/-- the worth is small -/
theorem pW_b {a st : Nat → Int32} (hv : pv_D a) {ν : zz_Mem} (hr : pI_r ν a) (hS : pv_S a st) {c : Nat → Nat} (hc : ∀ i, i < pN a → c i ≤ 999) : ∃ z : Int, pW a c st = lI z ∧ z.natAbs ≤ 10000000000000 := by
  obtain ⟨m', F, -, h⟩ := pr_byCounts hv (c := c) (m := ν) (m1 := zz_rowI ν 12 (fun i => nI (c i))) hr.1 hr.2 (pq_frr (pq_fr0 ν) _ (by simp)) (fun i hi => ⟨by rw [pz_rs], hc i hi⟩)
  have hF := (pr_lw h).2.2.2.2.1.2.1
  have hf := (pF_b hv).1
  have go : ∀ k, k ≤ pF a → ∃ z : Int, pWs a c st k = lI z ∧ z.natAbs ≤ k * 999000000000 := by
    intro k
    induction k with
    | zero => exact fun _ => ⟨0, rfl, by simp⟩
    | succ k ih =>
      intro hk
      obtain ⟨z, z1, z2⟩ := ih (by omega)
      have hX := pX_b hv hc hF (pv_n a (56 + k))
      have hA := hS.2 k (by omega)
      generalize hXX : pX a c (pv_n a (56 + k)) = X at *
      generalize hAA : (st (9 + k)).toInt = A at *
      have e : (st (9 + k)).toInt64 = lI A := by rw [← hAA, ← iI_l (Int32.le_toInt _) (Int32.toInt_lt _), iI_of]
      refine ⟨z + A * X, by rw [pWs, z1, hXX, e, lI_mul, lI_add], ?_⟩
      have h3 : (A * X).natAbs ≤ 999 * 1000000000 := by
        rw [Int.natAbs_mul]
        exact Nat.mul_le_mul (by omega) (by omega)
      omega
  obtain ⟨z, z1, z2⟩ := go (pF a) (Nat.le_refl _)
  exact ⟨z, z1, by omega⟩
