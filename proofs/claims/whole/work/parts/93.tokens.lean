/-! ===== 93: tokens ===== -/
def pRun (f : Nat → Bool) (B : Nat → Nat) : Nat → Nat → Nat
  | 0, p => p
  | r + 1, p => if f (B p) then pRun f B r (p + 1) else p
theorem pRun_b (f : Nat → Bool) (B : Nat → Nat) : ∀ r p, p ≤ pRun f B r p ∧ pRun f B r p ≤ p + r ∧ ∀ j, p ≤ j → j < pRun f B r p → f (B j) = true := by
  intro r
  induction r with
  | zero => intro p; exact ⟨Nat.le_refl _, Nat.le_refl _, fun j h1 h2 => absurd h2 (by rw [pRun]; omega)⟩
  | succ r ih =>
    intro p
    rw [pRun]
    by_cases c : f (B p) = true
    · rw [if_pos c]
      obtain ⟨h1, h2, h3⟩ := ih (p + 1)
      refine ⟨by omega, by omega, fun j j1 j2 => ?_⟩
      by_cases cj : j = p
      · rw [cj]; exact c
      · exact h3 j (by omega) j2
    · rw [if_neg c]
      exact ⟨Nat.le_refl _, by omega, fun j h1 h2 => absurd h2 (by omega)⟩
theorem pRun_1 {f : Nat → Bool} {B : Nat → Nat} {r p : Nat} (h : f (B p) = true) : p < pRun f B (r + 1) p := by
  rw [pRun, if_pos h]
  have := (pRun_b f B r (p + 1)).1
  omega
def pSp (c : Nat) : Bool := decide (c = 32 ∨ c = 10)
def pLt (c : Nat) : Bool := decide (97 ≤ c ∧ c ≤ 122)
def pDg (c : Nat) : Bool := decide (48 ≤ c ∧ c ≤ 57)
def pSg (i : Nat) : Nat := ([59, 58, 43, 45, 42, 40, 41, 91, 93, 61, 60, 62] : List Nat).getD i 0
def pSl (c : Nat) : Nat → Nat → Nat → Nat
  | 0, _, k => k
  | r + 1, i, k => pSl c r (i + 1) (if c = pSg i then 32 + i else k)
def pSt (c : Nat) : Nat := pSl c 12 0 31
def pVl (B : Nat → Nat) (p : Nat) : Nat → Nat
  | 0 => 0
  | k + 1 => pVl B p k * 10 + B (p + k) - 48
def pkP (B : Nat → Nat) (len b : Nat) : Nat := pRun pSp B (len - b) b
def pkE (B : Nat → Nat) (len p : Nat) : Nat := if len ≤ p then p else if pLt (B p) then pRun pLt B (len - p) p else if pDg (B p) then pRun pDg B (len - p) p else p + 1
def pkK (B : Nat → Nat) (len p : Nat) : Nat := if len ≤ p then 30 else if pLt (B p) then pKey B p (pRun pLt B (len - p) p) else if pDg (B p) then (if pRun pDg B (len - p) p - p ≤ 3 then 29 else 31) else pSt (B p)
def pTk (t : Nat) : Nat := if t ≤ 28 then 1 else if t = 29 then 2 else if t = 30 then 0 else pSg (t - 32)
def pTxc (B : Nat → Nat) (len : Nat) (μ : zz_Mem) : Prop := len ≤ 900 ∧ (∀ j, j < len → B j < 256 ∧ μ.1 1 j &&& 255 = nI (B j)) ∧ μ.1 30 2 = nI len ∧ μ.2.2 30 1 = some 1
def pTxr (B : Nat → Nat) (len : Nat) (ν : zz_Mem) : Prop := len ≤ 900 ∧ (∀ j, j < len → B j < 256 ∧ ν.1 3 j = nI (B j)) ∧ ν.1 0 8 = nI len
theorem pSt_c : ∀ c, c < 128 → (f_J0_indexOf_0f7a4 0 (((nI c).toUInt32 % 65536).toInt32)).map (fun r => decide (r < 0)) = some (decide (pSt c = 31)) := by decide +kernel
theorem pSt_b : ∀ c, c < 256 → (128 ≤ c → pSt c = 31) ∧ (pSt c ≠ 31 → pTk (pSt c) = c ∧ 32 ≤ pSt c ∧ pSt c < 44) ∧ (pSt c = 31 ∨ 32 ≤ pSt c) ∧ pSt c < 44 := by decide +kernel
theorem pSg_c : ∀ i, i < 12 → f_J0_charAt_5068e 0 (nI i) = some (nI (pSg i)) ∧ pSg i < 128 := by decide +kernel
theorem pc_byte {B : Nat → Nat} {len : Nat} {μ : zz_Mem} (h : pTxc B len μ) {p : Nat} (hp : p ≤ 900) : f_X7_byteAt μ (nI p) = some (nI (if p < len then B p else 0)) := by
  unfold f_X7_byteAt
  rw [if_neg (nI_pos (by omega)), h.2.2.1]
  have h9 := h.1
  by_cases c : p < len
  · rw [if_neg (nI_ge c (by omega)), zz_rg, if_pos h.2.2.2, pq_ixE (by omega) (by decide), nI_clamp (by omega), (h.2.1 p c).2, if_pos c]
  · rw [if_pos (nI_le (by omega) (by omega)), if_neg c]; rfl
theorem pr_see {B : Nat → Nat} {len : Nat} {ν : zz_Mem} (h : pTxr B len ν) {p : Nat} (hp : p ≤ 900) : f_X12_see ν (nI p) = some (if p < len then nI (B p) else -1) := by
  unfold f_X12_see
  have h9 := h.1
  rw [h.2.2]
  by_cases c : p < len
  · rw [if_neg (nI_ge c (by omega)), pq_ixE (by omega) (by decide), nI_clamp (by omega), (h.2.1 p c).2, if_pos c]
  · rw [if_pos (nI_le (by omega) (by omega)), if_neg c]
theorem pu_let {c : Nat} (hc : c < 256) : f_X7_isLetter (nI c) = some (pd_b (pLt c)) ∧ f_X12_isSmall (nI c) = some (pd_b (pLt c)) := by
  have : ∀ c, c < 256 → f_X7_isLetter (nI c) = some (pd_b (pLt c)) ∧ f_X12_isSmall (nI c) = some (pd_b (pLt c)) := by decide +kernel
  exact this c hc
theorem pu_dig {c : Nat} (hc : c < 256) : f_X7_isDigit (nI c) = some (pd_b (pDg c)) ∧ f_X12_isDigit (nI c) = some (pd_b (pDg c)) := by
  have : ∀ c, c < 256 → f_X7_isDigit (nI c) = some (pd_b (pDg c)) ∧ f_X12_isDigit (nI c) = some (pd_b (pDg c)) := by decide +kernel
  exact this c hc
/-- what stays when the class steps on, when the reference does -/
def p8 (μ μ' : zz_Mem) : Prop := μ'.1 30 7 = 0 → μ.1 30 7 = 0 ∧ μ'.1 30 8 = μ.1 30 8
theorem p8T {μ μ1 μ2 : zz_Mem} (h : p8 μ μ1) (g : p8 μ1 μ2) : p8 μ μ2 := fun z => ⟨(h (g z).1).1, (g z).2.trans (h (g z).1).2⟩
def pNx (μ μ' : zz_Mem) : Prop := pq_fr [30] μ μ' ∧ μ'.2 = μ.2 ∧ μ'.1 30 2 = μ.1 30 2 ∧ μ'.1 30 9 = μ.1 30 9 ∧ p8 μ μ'
def pNy (ν ν' : zz_Mem) : Prop := pq_fr [0] ν ν' ∧ ν'.2 = ν.2 ∧ ∀ j, j ≠ 6 → j ≠ 7 → j ≠ 9 → j ≠ 10 → ν'.1 0 j = ν.1 0 j
theorem pNx0 (μ : zz_Mem) : pNx μ μ := ⟨pq_fr0 μ, rfl, rfl, rfl, fun z => ⟨z, rfl⟩⟩
theorem pNy0 (ν : zz_Mem) : pNy ν ν := ⟨pq_fr0 ν, rfl, fun _ _ _ _ _ => rfl⟩
theorem pNxT {μ μ1 μ2 : zz_Mem} (h : pNx μ μ1) (g : pNx μ1 μ2) : pNx μ μ2 := ⟨pq_frT h.1 g.1, g.2.1.trans h.2.1, g.2.2.1.trans h.2.2.1, g.2.2.2.1.trans h.2.2.2.1, p8T h.2.2.2.2 g.2.2.2.2⟩
theorem pNyT {μ μ1 μ2 : zz_Mem} (h : pNy μ μ1) (g : pNy μ1 μ2) : pNy μ μ2 := ⟨pq_frT h.1 g.1, g.2.1.trans h.2.1, fun j a b c d => (g.2.2 j a b c d).trans (h.2.2 j a b c d)⟩
theorem pNxS (μ : zz_Mem) {i : Nat} (hi : i ≠ 2) (hi9 : i ≠ 9 ∧ i ≠ 7 ∧ i ≠ 8) (v : Int32) : pNx μ (zz_setI μ 30 i v) := ⟨pq_frI (pq_fr0 μ) _ _ (by simp), rfl, qx_isN (fun z => hi z.symm), qx_isN (fun z => hi9.1 z.symm), fun z => by
  rw [qx_isN (fun y => hi9.2.1 y.symm)] at z
  exact ⟨z, qx_isN (fun y => hi9.2.2 y.symm)⟩⟩
theorem pNxF (μ : zz_Mem) {w : Int32} (hw : ¬ w = 0) (v : Int32) : pNx μ (zz_setI (zz_setI μ 30 7 w) 30 8 v) := ⟨pq_frI (pq_frI (pq_fr0 μ) _ _ (by simp)) _ _ (by simp), rfl, by rw [qx_isN (by decide), qx_isN (by decide)], by rw [qx_isN (by decide), qx_isN (by decide)], fun z => by
  rw [qx_isN (by decide), qx_isE] at z
  exact absurd z hw⟩
theorem pNyS (ν : zz_Mem) {i : Nat} (hi : i = 6 ∨ i = 7 ∨ i = 9 ∨ i = 10) (v : Int32) : pNy ν (zz_setI ν 0 i v) := ⟨pq_frI (pq_fr0 ν) _ _ (by simp), rfl, fun j a b c d => qx_isN (by omega)⟩
theorem pTxc_N {B : Nat → Nat} {len : Nat} {μ μ' : zz_Mem} (h : pTxc B len μ) (g : pNx μ μ') : pTxc B len μ' := ⟨h.1, fun j hj => by rw [(g.1 1 (by simp)).1]; exact h.2.1 j hj, g.2.2.1.trans h.2.2.1, by rw [g.2.1]; exact h.2.2.2⟩
theorem pTxr_N {B : Nat → Nat} {len : Nat} {ν ν' : zz_Mem} (h : pTxr B len ν) (g : pNy ν ν') : pTxr B len ν' := ⟨h.1, fun j hj => by rw [(g.1 3 (by simp)).1]; exact h.2.1 j hj, (g.2.2 8 (by decide) (by decide) (by decide) (by decide)).trans h.2.2⟩
/-- a word in the class, in the reference -/
theorem pc_word {B : Nat → Nat} {len : Nat} : ∀ (r p fuel : Nat) (μ : zz_Mem), p + r = len → r < fuel → pTxc B len μ → μ.1 30 3 = nI p → ∃ μ', f_X7_nextWord_5 fuel μ = some μ' ∧ pNx μ μ' ∧ μ'.1 30 3 = nI (pRun pLt B r p) ∧ ∀ j, j ≠ 3 → μ'.1 30 j = μ.1 30 j := by
  intro r
  induction r with
  | zero =>
    intro p fuel μ h1 h2 h h3
    obtain ⟨fu, rfl⟩ : ∃ n, fuel = n + 1 := ⟨fuel - 1, by omega⟩
    have h9 := h.1
    rw [f_X7_nextWord_5, h.2.2.1, h3, if_pos (nI_le (by omega) (by omega))]
    exact ⟨μ, rfl, pNx0 μ, h3, fun _ _ => rfl⟩
  | succ r ih =>
    intro p fuel μ h1 h2 h h3
    obtain ⟨fu, rfl⟩ : ∃ n, fuel = n + 1 := ⟨fuel - 1, by omega⟩
    have h9 := h.1
    rw [f_X7_nextWord_5, h.2.2.1, h3, if_neg (nI_ge (by omega) (by omega)), pc_byte h (by omega), pq_bndS, if_pos (show p < len by omega), (pu_let (h.2.1 p (by omega)).1).1, pq_bndS, pRun]
    cases hc : pLt (B p) with
    | false =>
      rw [if_pos (show pd_b false = 0 from rfl), if_neg (by decide)]
      exact ⟨μ, rfl, pNx0 μ, h3, fun _ _ => rfl⟩
    | true =>
      rw [if_neg (show ¬ pd_b true = 0 by decide), if_pos rfl, pq_letM, nI_1]
      have n1 := pNxS μ (i := 3) (by decide) (by decide) (nI (p + 1))
      obtain ⟨μ', y1, y2, y3, y4⟩ := ih (p + 1) fu (zz_setI μ 30 3 (nI (p + 1))) (by omega) (by omega) (pTxc_N h n1) qx_isE
      exact ⟨μ', y1, pNxT n1 y2, y3, fun j hj => by rw [y4 j hj, qx_isN hj]⟩
theorem pr_word {B : Nat → Nat} {len : Nat} : ∀ (r p fuel : Nat) (ν : zz_Mem), p + r = len → r < fuel → pTxr B len ν → ν.1 0 7 = nI p → ∃ ν', f_X12_next_89 fuel ν = f_X12_next_116 ν' ∧ pNy ν ν' ∧ ν'.1 0 7 = nI (pRun pLt B r p) ∧ ∀ j, j ≠ 7 → ν'.1 0 j = ν.1 0 j := by
  intro r
  induction r with
  | zero =>
    intro p fuel ν h1 h2 h h3
    obtain ⟨fu, rfl⟩ : ∃ n, fuel = n + 1 := ⟨fuel - 1, by omega⟩
    have h9 := h.1
    rw [f_X12_next_89, h3, pr_see h (by omega), pq_bndS, if_neg (by omega), show f_X12_isSmall (-1) = some 0 from rfl, pq_bndS, if_pos rfl]
    exact ⟨ν, rfl, pNy0 ν, h3, fun _ _ => rfl⟩
  | succ r ih =>
    intro p fuel ν h1 h2 h h3
    obtain ⟨fu, rfl⟩ : ∃ n, fuel = n + 1 := ⟨fuel - 1, by omega⟩
    have h9 := h.1
    rw [f_X12_next_89, h3, pr_see h (by omega), pq_bndS, if_pos (show p < len by omega), (pu_let (h.2.1 p (by omega)).1).2, pq_bndS, pRun]
    cases hc : pLt (B p) with
    | false =>
      rw [if_pos (show pd_b false = 0 from rfl), if_neg (by decide)]
      exact ⟨ν, rfl, pNy0 ν, h3, fun _ _ => rfl⟩
    | true =>
      rw [if_neg (show ¬ pd_b true = 0 by decide), if_pos rfl, pq_letM, nI_1]
      have n1 := pNyS ν (i := 7) (by decide) (nI (p + 1))
      obtain ⟨ν', y1, y2, y3, y4⟩ := ih (p + 1) fu (zz_setI ν 0 7 (nI (p + 1))) (by omega) (by omega) (pTxr_N h n1) qx_isE
      exact ⟨ν', y1, pNyT n1 y2, y3, fun j hj => by rw [y4 j hj, qx_isN hj]⟩
theorem pDg_b {c : Nat} (h : pDg c = true) : 48 ≤ c ∧ c ≤ 57 := by
  unfold pDg at h
  rwa [decide_eq_true_iff] at h
theorem pLt_b {c : Nat} (h : pLt c = true) : 97 ≤ c ∧ c ≤ 122 := by
  unfold pLt at h
  rwa [decide_eq_true_iff] at h
theorem pVl_b {B : Nat → Nat} {p : Nat} : ∀ k, (∀ j, j < k → pDg (B (p + j)) = true) → pVl B p k < 10 ^ k := by
  intro k
  induction k with
  | zero => intro _; exact Nat.one_pos
  | succ k ih =>
    intro h
    have h1 := ih (fun j hj => h j (by omega))
    have h2 := pDg_b (h k (by omega))
    rw [pVl, Nat.pow_succ]
    omega
/-- a number in the class -/
theorem pc_num {B : Nat → Nat} {len p0 : Nat} : ∀ (r k fuel : Nat) (μ : zz_Mem), p0 + k + r = len → k ≤ 3 → r < fuel → pTxc B len μ → (∀ j, j < k → pDg (B (p0 + j)) = true) → μ.1 30 3 = nI (p0 + k) → μ.1 30 5 = nI p0 → μ.1 30 6 = nI (pVl B p0 k) → μ.1 30 7 = 0 → ∃ μ', f_X7_nextNumber_10 fuel μ = some μ' ∧ pNx μ μ' ∧ μ'.1 30 5 = nI p0 ∧ ((pRun pDg B r (p0 + k) ≤ p0 + 3 ∧ μ'.1 30 3 = nI (pRun pDg B r (p0 + k)) ∧ μ'.1 30 6 = nI (pVl B p0 (pRun pDg B r (p0 + k) - p0)) ∧ μ'.1 30 4 = μ.1 30 4 ∧ μ'.1 30 7 = 0 ∧ μ'.1 30 8 = μ.1 30 8) ∨ (p0 + 3 < pRun pDg B r (p0 + k) ∧ μ'.1 30 3 = nI (p0 + 3) ∧ μ'.1 30 4 = 3 ∧ μ'.1 30 7 = 1 ∧ μ'.1 30 8 = nI p0)) := by
  intro r
  induction r with
  | zero =>
    intro k fuel μ h1 hk h2 h hd h3 h5 h6 h7
    obtain ⟨fu, rfl⟩ : ∃ n, fuel = n + 1 := ⟨fuel - 1, by omega⟩
    have h9 := h.1
    rw [f_X7_nextNumber_10, h.2.2.1, h3, if_pos (nI_le (by omega) (by omega))]
    exact ⟨μ, rfl, pNx0 μ, h5, Or.inl ⟨by rw [pRun]; omega, h3, by rw [pRun, Nat.add_sub_cancel_left]; exact h6, rfl, h7, rfl⟩⟩
  | succ r ih =>
    intro k fuel μ h1 hk h2 h hd h3 h5 h6 h7
    obtain ⟨fu, rfl⟩ : ∃ n, fuel = n + 1 := ⟨fuel - 1, by omega⟩
    have h9 := h.1
    have l3 : (3 : Int32) = nI 3 := rfl
    have l10 : (10 : Int32) = nI 10 := rfl
    have l48 : (48 : Int32) = nI 48 := rfl
    have hv := pVl_b k hd
    have hv3 : pVl B p0 k < 1000 := Nat.lt_of_lt_of_le hv (Nat.pow_le_pow_right (n := 10) (by omega) hk)
    have hb := pc_byte h (p := p0 + k) (by omega)
    rw [if_pos (show p0 + k < len by omega)] at hb
    rw [f_X7_nextNumber_10, h.2.2.1, h3, if_neg (nI_ge (by omega) (by omega)), hb, pq_bndS, (pu_dig (h.2.1 (p0 + k) (by omega)).1).1, pq_bndS, pRun]
    cases hc : pDg (B (p0 + k)) with
    | false =>
      rw [if_pos (show pd_b false = 0 from rfl), if_neg (by decide)]
      exact ⟨μ, rfl, pNx0 μ, h5, Or.inl ⟨by omega, h3, by rw [Nat.add_sub_cancel_left]; exact h6, rfl, h7, rfl⟩⟩
    | true =>
      have hB := pDg_b hc
      rw [if_neg (show ¬ pd_b true = 0 by decide), if_pos rfl, h5, pk_sub (by omega), l3, Nat.add_sub_cancel_left]
      by_cases c : k < 3
      · rw [if_pos (nI_lt c (by omega)), pq_bndS, h6, l10, pk_mul, nI_add, l48, pk_sub (by omega), pq_letM, qx_isN (by decide), h3, nI_1, pq_letM]
        have n1 : pNx μ (zz_setI (zz_setI μ 30 6 (nI (pVl B p0 k * 10 + B (p0 + k) - 48))) 30 3 (nI (p0 + k + 1))) := pNxT (pNxS μ (by decide) (by decide) _) (pNxS _ (by decide) (by decide) _)
        obtain ⟨μ', y1, y2, y3, y4⟩ := ih (k + 1) fu (zz_setI (zz_setI μ 30 6 (nI (pVl B p0 k * 10 + B (p0 + k) - 48))) 30 3 (nI (p0 + k + 1))) (by omega) (by omega) (by omega) (pTxc_N h n1) (fun j hj => by
          by_cases cj : j = k
          · rw [cj]; exact hc
          · exact hd j (by omega)) qx_isE (by rw [qx_isN (by decide), qx_isN (by decide)]; exact h5) (by rw [qx_isN (by decide), qx_isE]; rfl) (by rw [qx_isN (by decide), qx_isN (by decide)]; exact h7)
        rw [qx_isN (by decide), qx_isN (by decide), qx_isN (by decide), qx_isN (by decide)] at y4
        exact ⟨μ', y1, pNxT n1 y2, y3, y4⟩
      · obtain rfl : k = 3 := by omega
        rw [if_neg (nI_nlt (by omega) (by omega))]
        unfold f_X7_nextNumber_48 f_X7_fail f_X7_fail_20
        rw [if_pos h7, pq_letM, pq_letM, pq_letM, pq_bndS]
        refine ⟨_, rfl, pNxT (pNxF μ (by decide) _) (pNxS _ (by decide) (by decide) _), ?_, Or.inr ⟨?_, ?_, ?_, ?_, ?_⟩⟩
        · rw [qx_isN (by decide), qx_isN (by decide), qx_isN (by decide)]; exact h5
        · have := (pRun_b pDg B r (p0 + 3 + 1)).1; omega
        · rw [qx_isN (by decide), qx_isN (by decide), qx_isN (by decide)]; exact h3
        · rw [qx_isE]; rfl
        · rw [qx_isN (by decide), qx_isN (by decide), qx_isE]
        · rw [qx_isN (by decide), qx_isE, qx_isN (by decide)]; exact h5
/-- a number in the reference -/
theorem pr_num {B : Nat → Nat} {len p0 : Nat} : ∀ (r k fuel : Nat) (ν : zz_Mem), p0 + k + r = len → r < fuel → pTxr B len ν → (∀ j, j < k → pDg (B (p0 + j)) = true) → ν.1 0 7 = nI (p0 + k) → ν.1 0 6 = nI p0 → ν.1 0 10 = nI (pVl B p0 (min k 3)) → ∃ ν', f_X12_next_146 fuel ν = f_X12_next_209 ν' ∧ pNy ν ν' ∧ ν'.1 0 6 = nI p0 ∧ ν'.1 0 7 = nI (pRun pDg B r (p0 + k)) ∧ ν'.1 0 10 = nI (pVl B p0 (min (pRun pDg B r (p0 + k) - p0) 3)) := by
  intro r
  induction r with
  | zero =>
    intro k fuel ν h1 h2 h hd h7 h6 h10
    obtain ⟨fu, rfl⟩ : ∃ n, fuel = n + 1 := ⟨fuel - 1, by omega⟩
    have h9 := h.1
    rw [f_X12_next_146, h7, pr_see h (by omega), pq_bndS, if_neg (by omega), show f_X12_isDigit (-1) = some 0 from rfl, pq_bndS, if_pos rfl]
    exact ⟨ν, rfl, pNy0 ν, h6, h7, by rw [pRun, Nat.add_sub_cancel_left]; exact h10⟩
  | succ r ih =>
    intro k fuel ν h1 h2 h hd h7 h6 h10
    obtain ⟨fu, rfl⟩ : ∃ n, fuel = n + 1 := ⟨fuel - 1, by omega⟩
    have h9 := h.1
    have l3 : (3 : Int32) = nI 3 := rfl
    have l10 : (10 : Int32) = nI 10 := rfl
    have l48 : (48 : Int32) = nI 48 := rfl
    have hb := pr_see h (p := p0 + k) (by omega)
    rw [if_pos (show p0 + k < len by omega)] at hb
    rw [f_X12_next_146, h7, hb, pq_bndS, (pu_dig (h.2.1 (p0 + k) (by omega)).1).2, pq_bndS, pRun]
    cases hc : pDg (B (p0 + k)) with
    | false =>
      rw [if_pos (show pd_b false = 0 from rfl), if_neg (by decide)]
      exact ⟨ν, rfl, pNy0 ν, h6, h7, by rw [Nat.add_sub_cancel_left]; exact h10⟩
    | true =>
      have hB := pDg_b hc
      rw [if_neg (show ¬ pd_b true = 0 by decide), if_pos rfl, h6, pk_sub (by omega), l3, Nat.add_sub_cancel_left]
      have hd' : ∀ j, j < k + 1 → pDg (B (p0 + j)) = true := fun j hj => by
        by_cases cj : j = k
        · rw [cj]; exact hc
        · exact hd j (by omega)
      by_cases c : k < 3
      · have hv := pVl_b k hd
        have hv3 : pVl B p0 k < 1000 := Nat.lt_of_lt_of_le hv (show 10 ^ k ≤ 10 ^ 3 from Nat.pow_le_pow_right (by omega) (by omega))
        have em : min k 3 = k := by omega
        rw [em] at h10
        rw [if_neg (nI_ge c (by omega)), pq_bndS, h10, l10, pk_mul, nI_add, l48, pk_sub (by omega), pq_letM]
        unfold f_X12_next_196
        rw [qx_isN (by decide), h7, nI_1, pq_letM]
        have n1 : pNy ν (zz_setI (zz_setI ν 0 10 (nI (10 * pVl B p0 k + B (p0 + k) - 48))) 0 7 (nI (p0 + k + 1))) := pNyT (pNyS ν (by decide) _) (pNyS _ (by decide) _)
        obtain ⟨ν', y1, y2, y3, y4, y5⟩ := ih (k + 1) fu (zz_setI (zz_setI ν 0 10 (nI (10 * pVl B p0 k + B (p0 + k) - 48))) 0 7 (nI (p0 + k + 1))) (by omega) (by omega) (pTxr_N h n1) hd' qx_isE (by rw [qx_isN (by decide), qx_isN (by decide)]; exact h6) (by rw [qx_isN (by decide), qx_isE, show min (k + 1) 3 = k + 1 by omega, pVl, Nat.mul_comm])
        exact ⟨ν', y1, pNyT n1 y2, y3, y4, y5⟩
      · rw [if_pos (nI_le (by omega) (by omega))]
        unfold f_X12_next_196
        rw [h7, nI_1, pq_letM]
        have n1 : pNy ν (zz_setI ν 0 7 (nI (p0 + k + 1))) := pNyS ν (by decide) _
        obtain ⟨ν', y1, y2, y3, y4, y5⟩ := ih (k + 1) fu (zz_setI ν 0 7 (nI (p0 + k + 1))) (by omega) (by omega) (pTxr_N h n1) hd' qx_isE (by rw [qx_isN (by decide)]; exact h6) (by rw [qx_isN (by decide), h10, show min (k + 1) 3 = min k 3 by omega])
        exact ⟨ν', y1, pNyT n1 y2, y3, y4, y5⟩
