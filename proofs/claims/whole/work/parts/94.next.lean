/-! ===== 94: the next token ===== -/
theorem pSp_b {c : Nat} : pSp c = true ↔ c = 32 ∨ c = 10 := by unfold pSp; rw [decide_eq_true_iff]
theorem pc_skip {B : Nat → Nat} {len : Nat} : ∀ (r p fuel : Nat) (μ : zz_Mem), p + r = len → r < fuel → pTxc B len μ → μ.1 30 3 = nI p → ∃ μ', f_X7_next_0 fuel μ = f_X7_next_50 μ' ∧ pNx μ μ' ∧ μ'.1 30 3 = nI (pRun pSp B r p) ∧ ∀ j, j ≠ 3 → μ'.1 30 j = μ.1 30 j := by
  intro r
  induction r with
  | zero =>
    intro p fuel μ h1 h2 h h3
    obtain ⟨fu, rfl⟩ : ∃ n, fuel = n + 1 := ⟨fuel - 1, by omega⟩
    have h9 := h.1
    rw [f_X7_next_0, h.2.2.1, h3, if_pos (nI_le (by omega) (by omega))]
    exact ⟨μ, rfl, pNx0 μ, h3, fun _ _ => rfl⟩
  | succ r ih =>
    intro p fuel μ h1 h2 h h3
    obtain ⟨fu, rfl⟩ : ∃ n, fuel = n + 1 := ⟨fuel - 1, by omega⟩
    have h9 := h.1
    have hB := (h.2.1 p (by omega)).1
    have l32 : (32 : Int32) = nI 32 := rfl
    have l10 : (10 : Int32) = nI 10 := rfl
    have go : pSp (B p) = true → ∃ μ', f_X7_next_37 (f_X7_next_0 fu) μ = f_X7_next_50 μ' ∧ pNx μ μ' ∧ μ'.1 30 3 = nI (pRun pSp B (r + 1) p) ∧ ∀ j, j ≠ 3 → μ'.1 30 j = μ.1 30 j := by
      intro hc
      unfold f_X7_next_37
      rw [h3, nI_1, pq_letM, pRun, if_pos hc]
      have n1 := pNxS μ (i := 3) (by decide) (by decide) (nI (p + 1))
      obtain ⟨μ', y1, y2, y3, y4⟩ := ih (p + 1) fu (zz_setI μ 30 3 (nI (p + 1))) (by omega) (by omega) (pTxc_N h n1) qx_isE
      exact ⟨μ', y1, pNxT n1 y2, y3, fun j hj => by rw [y4 j hj, qx_isN hj]⟩
    rw [f_X7_next_0, h.2.2.1, h3, if_neg (nI_ge (by omega) (by omega)), pc_byte h (by omega), pq_bndS, if_pos (show p < len by omega)]
    by_cases c : B p = 32
    · rw [if_pos (by rw [c]; rfl)]; exact go (pSp_b.mpr (Or.inl c))
    · rw [if_neg (by rw [l32, nI_eq (by omega) (by omega)]; exact c), pq_bndS]
      by_cases d : B p = 10
      · rw [if_pos (by rw [d]; rfl)]; exact go (pSp_b.mpr (Or.inr d))
      · rw [if_neg (by rw [l10, nI_eq (by omega) (by omega)]; exact d), pRun, if_neg (fun z => by rcases pSp_b.mp z with e | e; exact c e; exact d e)]
        exact ⟨μ, rfl, pNx0 μ, h3, fun _ _ => rfl⟩
theorem pr_skip {B : Nat → Nat} {len : Nat} : ∀ (r p fuel : Nat) (ν : zz_Mem), p + r = len → r < fuel → pTxr B len ν → ν.1 0 6 = nI p → ∃ ν', f_X12_next_8 fuel ν = f_X12_next_47 ν' ∧ pNy ν ν' ∧ ν'.1 0 6 = nI (pRun pSp B r p) := by
  intro r
  induction r with
  | zero =>
    intro p fuel ν h1 h2 h h3
    obtain ⟨fu, rfl⟩ : ∃ n, fuel = n + 1 := ⟨fuel - 1, by omega⟩
    have h9 := h.1
    rw [f_X12_next_8, h3, pr_see h (by omega), pq_bndS, if_neg (show ¬ p < len by omega), if_neg (show ¬ (-1 : Int32) = 10 by decide), pq_bndS, if_neg (show ¬ (-1 : Int32) = 32 by decide)]
    exact ⟨ν, rfl, pNy0 ν, h3⟩
  | succ r ih =>
    intro p fuel ν h1 h2 h h3
    obtain ⟨fu, rfl⟩ : ∃ n, fuel = n + 1 := ⟨fuel - 1, by omega⟩
    have h9 := h.1
    have hB := (h.2.1 p (by omega)).1
    have l32 : (32 : Int32) = nI 32 := rfl
    have l10 : (10 : Int32) = nI 10 := rfl
    have go : pSp (B p) = true → ∃ ν', f_X12_next_34 (f_X12_next_8 fu) ν = f_X12_next_47 ν' ∧ pNy ν ν' ∧ ν'.1 0 6 = nI (pRun pSp B (r + 1) p) := by
      intro hc
      unfold f_X12_next_34
      rw [h3, nI_1, pq_letM, pRun, if_pos hc]
      have n1 := pNyS ν (i := 6) (by decide) (nI (p + 1))
      obtain ⟨ν', y1, y2, y3⟩ := ih (p + 1) fu (zz_setI ν 0 6 (nI (p + 1))) (by omega) (by omega) (pTxr_N h n1) qx_isE
      exact ⟨ν', y1, pNyT n1 y2, y3⟩
    rw [f_X12_next_8, h3, pr_see h (by omega), pq_bndS, if_pos (show p < len by omega)]
    by_cases d : B p = 10
    · rw [if_pos (by rw [d]; rfl)]; exact go (pSp_b.mpr (Or.inr d))
    · rw [if_neg (by rw [l10, nI_eq (by omega) (by omega)]; exact d), pq_bndS]
      by_cases c : B p = 32
      · rw [if_pos (by rw [c]; rfl)]; exact go (pSp_b.mpr (Or.inl c))
      · rw [if_neg (by rw [l32, nI_eq (by omega) (by omega)]; exact c), pRun, if_neg (fun z => by rcases pSp_b.mp z with e | e; exact c e; exact d e)]
        exact ⟨ν, rfl, pNy0 ν, h3⟩
theorem pkP_b {B : Nat → Nat} {len b : Nat} (h : b ≤ len) : b ≤ pkP B len b ∧ pkP B len b ≤ len := by
  have := pRun_b pSp B (len - b) b
  unfold pkP
  omega
/-- places and kinds of a token -/
theorem pkE_b {B : Nat → Nat} {len p : Nat} (hp : p ≤ len) (hB : ∀ j, j < len → B j < 256) : p ≤ pkE B len p ∧ pkE B len p ≤ len ∧ (pkK B len p ≠ 30 → p < pkE B len p) ∧ (pkK B len p = 30 ↔ len ≤ p) ∧ pkK B len p < 44 := by
  unfold pkE pkK
  by_cases c : len ≤ p
  · rw [if_pos c, if_pos c]; exact ⟨by omega, by omega, fun z => absurd rfl z, ⟨fun _ => c, fun _ => rfl⟩, by omega⟩
  · rw [if_neg c, if_neg c]
    obtain ⟨r, hr⟩ : ∃ r, len - p = r + 1 := ⟨len - p - 1, by omega⟩
    rw [hr]
    by_cases d : pLt (B p) = true
    · rw [if_pos d, if_pos d]
      have h1 := pRun_b pLt B (r + 1) p
      have h2 := pRun_1 (r := r) d
      have h3 := pKey_b B p (pRun pLt B (r + 1) p)
      exact ⟨by omega, by omega, fun _ => h2, ⟨fun z => by omega, fun z => absurd z c⟩, by omega⟩
    · rw [if_neg d, if_neg d]
      by_cases e : pDg (B p) = true
      · rw [if_pos e, if_pos e]
        have h1 := pRun_b pDg B (r + 1) p
        have h2 := pRun_1 (r := r) e
        refine ⟨by omega, by omega, fun _ => h2, ⟨fun z => ?_, fun z => absurd z c⟩, ?_⟩
        · split at z <;> omega
        · split <;> omega
      · rw [if_neg e, if_neg e]
        obtain ⟨s1, s2, s3, s4⟩ := pSt_b (B p) (hB p (by omega))
        exact ⟨by omega, by omega, fun _ => by omega, ⟨fun z => by omega, fun z => absurd z c⟩, s4⟩
/-- the class steps to the next token -/
theorem pc_next {B : Nat → Nat} {len b : Nat} {μ : zz_Mem} (h : pTxc B len μ) (hb : b ≤ len) (h3 : μ.1 30 3 = nI b) (h7 : μ.1 30 7 = 0) : ∃ μ', f_X7_next μ = some μ' ∧ pNx μ μ' ∧ μ'.1 30 5 = nI (pkP B len b) ∧ ((pkK B len (pkP B len b) ≠ 31 ∧ μ'.1 30 3 = nI (pkE B len (pkP B len b)) ∧ μ'.1 30 4 = nI (pTk (pkK B len (pkP B len b))) ∧ μ'.1 30 7 = 0 ∧ (pkK B len (pkP B len b) = 29 → μ'.1 30 6 = nI (pVl B (pkP B len b) (pkE B len (pkP B len b) - pkP B len b)))) ∨ (pkK B len (pkP B len b) = 31 ∧ (∃ b', b' ≤ len ∧ μ'.1 30 3 = nI b') ∧ μ'.1 30 4 = 3 ∧ μ'.1 30 7 = 1 ∧ μ'.1 30 8 = nI (pkP B len b))) := by
  have hfu : zz_fuel = 5000 := rfl
  have h9 := h.1
  obtain ⟨μ1, y1, y2, y3, y4⟩ := pc_skip (len - b) b zz_fuel μ (by omega) (by omega) h h3
  unfold f_X7_next
  rw [y1]
  have hp := pkP_b (B := B) hb
  change μ1.1 30 3 = nI (pkP B len b) at y3
  generalize pkP B len b = p at *
  unfold f_X7_next_50
  rw [y3, pq_letM]
  generalize hm2 : zz_setI μ1 30 5 (nI p) = m2
  have n2 : pNx μ m2 := by rw [← hm2]; exact pNxT y2 (pNxS μ1 (by decide) (by decide) _)
  have h2 := pTxc_N h n2
  have e3 : m2.1 30 3 = nI p := by rw [← hm2, qx_isN (by decide)]; exact y3
  have e5 : m2.1 30 5 = nI p := by rw [← hm2, qx_isE]
  have e7 : m2.1 30 7 = 0 := by rw [← hm2, qx_isN (by decide), y4 7 (by decide)]; exact h7
  have fl : ∃ μ', f_X7_next_164 m2 = some μ' ∧ pNx μ μ' ∧ μ'.1 30 5 = nI p ∧ (∃ b', b' ≤ len ∧ μ'.1 30 3 = nI b') ∧ μ'.1 30 4 = 3 ∧ μ'.1 30 7 = 1 ∧ μ'.1 30 8 = nI p := by
    unfold f_X7_next_164 f_X7_fail f_X7_fail_20
    rw [if_pos e7, pq_letM, pq_letM, pq_letM, pq_bndS]
    refine ⟨_, rfl, pNxT n2 (pNxT (pNxF m2 (by decide) _) (pNxS _ (by decide) (by decide) _)), ?_, ⟨p, hp.2, ?_⟩, ?_, ?_, ?_⟩
    · rw [qx_isN (by decide), qx_isN (by decide), qx_isN (by decide)]; exact e5
    · rw [qx_isN (by decide), qx_isN (by decide), qx_isN (by decide)]; exact e3
    · rw [qx_isE]
    · rw [qx_isN (by decide), qx_isN (by decide), qx_isE]
    · rw [qx_isN (by decide), qx_isE, qx_isN (by decide)]; exact e5
  rw [e3, pc_byte h2 (by omega), pq_bndS, if_pos e7, h2.2.2.1]
  unfold pkK pkE
  by_cases c : len ≤ p
  · rw [if_neg (nI_nlt c (by omega)), pq_letM, if_pos c, if_pos c]
    refine ⟨_, rfl, pNxT n2 (pNxS m2 (by decide) (by decide) _), by rw [qx_isN (by decide)]; exact e5, Or.inl ⟨by decide, by rw [qx_isN (by decide)]; exact e3, by rw [qx_isE]; rfl, by rw [qx_isN (by decide)]; exact e7, fun z => absurd z (by decide)⟩⟩
  · have hB := (h.2.1 p (by omega)).1
    rw [if_pos (nI_lt (by omega) (by omega)), if_neg c, if_neg c, if_pos (show p < len by omega), (pu_let hB).1, pq_bndS]
    cases d : pLt (B p) with
    | true =>
      rw [if_neg (show ¬ pd_b true = 0 by decide), if_pos (show true = true from rfl), if_pos (show true = true from rfl)]
      unfold f_X7_nextWord
      rw [pq_letM]
      have n3 := pNxS m2 (i := 4) (by decide) (by decide) 1
      obtain ⟨μ', z1, z2, z3, z4⟩ := pc_word (len - p) p zz_fuel (zz_setI m2 30 4 1) (by omega) (by omega) (pTxc_N h2 n3) (by rw [qx_isN (by decide)]; exact e3)
      have hk := pKey_b B p (pRun pLt B (len - p) p)
      rw [z1, pq_bndS]
      refine ⟨μ', rfl, pNxT n2 (pNxT n3 z2), by rw [z4 5 (by decide), qx_isN (by decide)]; exact e5, Or.inl ⟨by omega, z3, ?_, ?_, fun z => absurd z (by omega)⟩⟩
      · rw [z4 4 (by decide), qx_isE, pTk, if_pos hk]; rfl
      · rw [z4 7 (by decide), qx_isN (by decide)]; exact e7
    | false =>
      rw [if_pos (show pd_b false = 0 from rfl), if_neg (show ¬ false = true by decide), if_neg (show ¬ false = true by decide), (pu_dig hB).1, pq_bndS]
      cases e : pDg (B p) with
      | true =>
        rw [if_neg (show ¬ pd_b true = 0 by decide), if_pos (show true = true from rfl), if_pos (show true = true from rfl)]
        unfold f_X7_nextNumber
        rw [pq_letM, pq_letM]
        have n3 := pNxT (pNxS m2 (i := 4) (by decide) (by decide) 2) (pNxS (zz_setI m2 30 4 2) (i := 6) (by decide) (by decide) 0)
        obtain ⟨μ', z1, z2, z5, z3⟩ := pc_num (p0 := p) (len - p) 0 zz_fuel (zz_setI (zz_setI m2 30 4 2) 30 6 0) (by omega) (by omega) (by omega) (pTxc_N h2 n3) (fun j hj => absurd hj (Nat.not_lt_zero _)) (by rw [qx_isN (by decide), qx_isN (by decide)]; exact e3) (by rw [qx_isN (by decide), qx_isN (by decide)]; exact e5) (by rw [qx_isE]; rfl) (by rw [qx_isN (by decide), qx_isN (by decide)]; exact e7)
        have hr := pRun_b pDg B (len - p) p
        rw [Nat.add_zero] at z3
        rw [z1, pq_bndS]
        rcases z3 with ⟨q1, q2, q3, q4, q5, q6⟩ | ⟨q1, q2, q3, q4, q5⟩
        · rw [if_pos (by omega)]
          refine ⟨μ', rfl, pNxT n2 (pNxT n3 z2), z5, Or.inl ⟨by decide, q2, ?_, q5, fun _ => q3⟩⟩
          rw [q4, qx_isN (by decide), qx_isE]; rfl
        · rw [if_neg (by omega)]
          exact ⟨μ', rfl, pNxT n2 (pNxT n3 z2), z5, Or.inr ⟨rfl, ⟨p + 3, by omega, q2⟩, q3, q4, q5⟩⟩
      | false =>
        rw [if_pos (show pd_b false = 0 from rfl), if_neg (show ¬ false = true by decide), if_neg (show ¬ false = true by decide)]
        obtain ⟨s1, s2, s3, s4⟩ := pSt_b (B p) hB
        have l128 : (128 : Int32) = nI 128 := rfl
        by_cases g : 128 ≤ B p
        · rw [l128, if_pos (nI_le g (by omega))]
          obtain ⟨μ', f1, f2, f3, f4⟩ := fl
          exact ⟨μ', f1, f2, f3, Or.inr ⟨s1 g, f4⟩⟩
        · rw [l128, if_neg (nI_ge (by omega) (by omega))]
          have hi := pSt_c (B p) (by omega)
          cases hx : f_J0_indexOf_0f7a4 0 (((nI (B p)).toUInt32 % 65536).toInt32) with
          | none => rw [hx] at hi; exact absurd hi (by simp)
          | some x =>
            rw [hx, Option.map_some] at hi
            have hi2 : decide (x < 0) = decide (pSt (B p) = 31) := by simpa using hi
            rw [pq_bndS]
            by_cases k : pSt (B p) = 31
            · rw [decide_eq_true k, decide_eq_true_iff] at hi2
              rw [if_pos hi2]
              obtain ⟨μ', f1, f2, f3, f4⟩ := fl
              exact ⟨μ', f1, f2, f3, Or.inr ⟨k, f4⟩⟩
            · rw [decide_eq_false k, decide_eq_false_iff_not] at hi2
              rw [if_neg hi2, pq_letM, qx_isN (by decide), e3, nI_1, pq_letM]
              refine ⟨_, rfl, pNxT n2 (pNxT (pNxS m2 (by decide) (by decide) _) (pNxS _ (by decide) (by decide) _)), ?_, Or.inl ⟨k, qx_isE, ?_, ?_, fun z => by omega⟩⟩
              · rw [qx_isN (by decide), qx_isN (by decide)]; exact e5
              · rw [qx_isN (by decide), qx_isE, (s2 k).1]
              · rw [qx_isN (by decide), qx_isN (by decide)]; exact e7
/-- the class when it has stopped -/
theorem pc_stop {B : Nat → Nat} {len b : Nat} {μ : zz_Mem} (h : pTxc B len μ) (hb : b ≤ len) (h3 : μ.1 30 3 = nI b) (h7 : ¬ μ.1 30 7 = 0) : ∃ μ', f_X7_next μ = some μ' ∧ pNx μ μ' ∧ (∃ b', b' ≤ len ∧ μ'.1 30 3 = nI b') ∧ μ'.1 30 4 = 3 ∧ μ'.1 30 7 = μ.1 30 7 ∧ μ'.1 30 8 = μ.1 30 8 := by
  have hfu : zz_fuel = 5000 := rfl
  have h9 := h.1
  obtain ⟨μ1, y1, y2, y3, y4⟩ := pc_skip (len - b) b zz_fuel μ (by omega) (by omega) h h3
  unfold f_X7_next
  rw [y1]
  have hp := pkP_b (B := B) hb
  change μ1.1 30 3 = nI (pkP B len b) at y3
  generalize pkP B len b = p at *
  unfold f_X7_next_50
  rw [y3, pq_letM]
  generalize hm2 : zz_setI μ1 30 5 (nI p) = m2
  have n2 : pNx μ m2 := by rw [← hm2]; exact pNxT y2 (pNxS μ1 (by decide) (by decide) _)
  have h2 := pTxc_N h n2
  have e3 : m2.1 30 3 = nI p := by rw [← hm2, qx_isN (by decide)]; exact y3
  have e7 : m2.1 30 7 = μ.1 30 7 := by rw [← hm2, qx_isN (by decide), y4 7 (by decide)]
  have e8 : m2.1 30 8 = μ.1 30 8 := by rw [← hm2, qx_isN (by decide), y4 8 (by decide)]
  rw [e3, pc_byte h2 (by omega), pq_bndS, if_neg (by rw [e7]; exact h7), pq_letM]
  exact ⟨_, rfl, pNxT n2 (pNxS m2 (by decide) (by decide) _), ⟨p, hp.2, by rw [qx_isN (by decide)]; exact e3⟩, qx_isE, by rw [qx_isN (by decide)]; exact e7, by rw [qx_isN (by decide)]; exact e8⟩
theorem pr_sign {B : Nat → Nat} {len p : Nat} (hp : p < len) : ∀ (r i k fuel : Nat) (ν : zz_Mem), i + r = 12 → r < fuel → pTxr B len ν → ν.1 0 6 = nI p → ν.1 0 9 = nI k → ∃ ν', f_X12_next_254 fuel (nI i) ν = some ν' ∧ pNy ν ν' ∧ ν'.1 0 6 = ν.1 0 6 ∧ ν'.1 0 7 = ν.1 0 7 ∧ ν'.1 0 9 = nI (pSl (B p) r i k) := by
  intro r
  induction r with
  | zero =>
    intro i k fuel ν h1 h2 h h6 h9
    obtain ⟨fu, rfl⟩ : ∃ n, fuel = n + 1 := ⟨fuel - 1, by omega⟩
    rw [f_X12_next_254, pw_len 0 (by omega), pq_bndS, pw_signs, if_pos (nI_le (by omega) (by omega))]
    exact ⟨ν, rfl, pNy0 ν, rfl, rfl, h9⟩
  | succ r ih =>
    intro i k fuel ν h1 h2 h h6 h9
    obtain ⟨fu, rfl⟩ : ∃ n, fuel = n + 1 := ⟨fuel - 1, by omega⟩
    have hl := h.1
    have hB := (h.2.1 p hp).1
    obtain ⟨s1, s2⟩ := pSg_c i (by omega)
    have l32 : (32 : Int32) = nI 32 := rfl
    rw [f_X12_next_254, pw_len 0 (by omega), pq_bndS, pw_signs, if_neg (nI_ge (by omega) (by omega)), h6, pr_see h (by omega), pq_bndS, if_pos hp, s1, pq_bndS, pSl]
    by_cases c : B p = pSg i
    · rw [if_pos (by rw [c]), if_pos c, l32, nI_add, pq_letM, nI_1, pq_letI]
      have n1 := pNyS ν (i := 9) (by decide) (nI (32 + i))
      obtain ⟨ν', y1, y2, y3, y4, y5⟩ := ih (i + 1) (32 + i) fu (zz_setI ν 0 9 (nI (32 + i))) (by omega) (by omega) (pTxr_N h n1) (by rw [qx_isN (by decide)]; exact h6) qx_isE
      refine ⟨ν', y1, pNyT n1 y2, ?_, ?_, y5⟩
      · rw [y3, qx_isN (by decide)]; exact h6
      · rw [y4, qx_isN (by decide)]
    · rw [if_neg (by rw [nI_eq (by omega) (by omega)]; exact c), if_neg c, nI_1, pq_letI]
      obtain ⟨ν', y1, y2, y3, y4, y5⟩ := ih (i + 1) k fu ν (by omega) (by omega) h h6 h9
      exact ⟨ν', y1, y2, by rw [y3]; exact h6, y4, y5⟩
/-- the reference steps to the next token -/
theorem pr_next {B : Nat → Nat} {len b : Nat} {ν : zz_Mem} (h : pTxr B len ν) (hb : b ≤ len) (h7 : ν.1 0 7 = nI b) : ∃ ν', f_X12_next ν = some ν' ∧ pNy ν ν' ∧ ν'.1 0 6 = nI (pkP B len b) ∧ ν'.1 0 7 = nI (pkE B len (pkP B len b)) ∧ ν'.1 0 9 = nI (pkK B len (pkP B len b)) ∧ (pkK B len (pkP B len b) = 29 → ν'.1 0 10 = nI (pVl B (pkP B len b) (pkE B len (pkP B len b) - pkP B len b))) := by
  have hfu : zz_fuel = 5000 := rfl
  have h9 := h.1
  unfold f_X12_next
  rw [h7, pq_letM]
  have n0 := pNyS ν (i := 6) (by decide) (nI b)
  obtain ⟨ν1, y1, y2, y3⟩ := pr_skip (len - b) b zz_fuel (zz_setI ν 0 6 (nI b)) (by omega) (by omega) (pTxr_N h n0) qx_isE
  rw [y1]
  have hp := pkP_b (B := B) hb
  change ν1.1 0 6 = nI (pkP B len b) at y3
  generalize pkP B len b = p at *
  unfold f_X12_next_47
  rw [y3, pq_letM]
  generalize hm2 : zz_setI ν1 0 7 (nI p) = m2
  have n2 : pNy ν m2 := by rw [← hm2]; exact pNyT (pNyT n0 y2) (pNyS ν1 (by decide) _)
  have h2 := pTxr_N h n2
  have e6 : m2.1 0 6 = nI p := by rw [← hm2, qx_isN (by decide)]; exact y3
  have e7 : m2.1 0 7 = nI p := by rw [← hm2, qx_isE]
  rw [e6, h2.2.2]
  unfold pkK pkE
  by_cases c : len ≤ p
  · rw [if_neg (nI_nlt c (by omega)), pq_letM, if_pos c, if_pos c]
    exact ⟨_, rfl, pNyT n2 (pNyS m2 (by decide) _), by rw [qx_isN (by decide)]; exact e6, by rw [qx_isN (by decide)]; exact e7, qx_isE, fun z => absurd z (by decide)⟩
  · have hB := (h.2.1 p (by omega)).1
    rw [if_pos (nI_lt (by omega) (by omega)), if_neg c, if_neg c, pr_see h2 (by omega), pq_bndS, if_pos (show p < len by omega), (pu_let hB).2, pq_bndS]
    cases d : pLt (B p) with
    | true =>
      rw [if_neg (show ¬ pd_b true = 0 by decide), if_pos (show true = true from rfl), if_pos (show true = true from rfl)]
      obtain ⟨ν', z1, z2, z3, z4⟩ := pr_word (len - p) p zz_fuel m2 (by omega) (by omega) h2 e7
      rw [z1]
      unfold f_X12_next_116
      have h3 := pTxr_N h2 z2
      have hr := pRun_b pLt B (len - p) p
      have hr1 : p < pRun pLt B (len - p) p := by
        obtain ⟨r, hr⟩ : ∃ r, len - p = r + 1 := ⟨len - p - 1, by omega⟩
        rw [hr]; exact pRun_1 d
      have hk := pKey_b B p (pRun pLt B (len - p) p)
      rw [pr_keyAt (B := B) (p := p) (q := pRun pLt B (len - p) p) hr1 (by omega) (by rw [z4 6 (by decide)]; exact e6) z3 (fun j hj => ⟨(h3.2.1 j (by omega)).2, (h3.2.1 j (by omega)).1⟩), pq_bndS, pq_letM]
      exact ⟨_, rfl, pNyT n2 (pNyT z2 (pNyS ν' (by decide) _)), by rw [qx_isN (by decide), z4 6 (by decide)]; exact e6, by rw [qx_isN (by decide)]; exact z3, qx_isE, fun z => absurd z (by omega)⟩
    | false =>
      rw [if_pos (show pd_b false = 0 from rfl), if_neg (show ¬ false = true by decide), if_neg (show ¬ false = true by decide), pq_bndS, (pu_dig hB).2, pq_bndS]
      cases e : pDg (B p) with
      | true =>
        rw [if_neg (show ¬ pd_b true = 0 by decide), if_pos (show true = true from rfl), if_pos (show true = true from rfl), pq_letM]
        have n3 := pNyS m2 (i := 10) (by decide) 0
        obtain ⟨ν', z1, z2, z3, z4, z5⟩ := pr_num (p0 := p) (len - p) 0 zz_fuel (zz_setI m2 0 10 0) (by omega) (by omega) (pTxr_N h2 n3) (fun j hj => absurd hj (Nat.not_lt_zero _)) (by rw [qx_isN (by decide)]; exact e7) (by rw [qx_isN (by decide)]; exact e6) (by rw [qx_isE]; rfl)
        have hr := pRun_b pDg B (len - p) p
        rw [Nat.add_zero] at z4 z5
        have l3 : (3 : Int32) = nI 3 := rfl
        rw [z1]
        unfold f_X12_next_209 f_X12_next_230
        rw [z3, z4, pk_sub (by omega), l3]
        by_cases g : pRun pDg B (len - p) p - p ≤ 3
        · rw [if_pos (nI_le g (by omega)), if_pos g, pq_letM]
          refine ⟨_, rfl, pNyT n2 (pNyT n3 (pNyT z2 (pNyS ν' (by decide) _))), by rw [qx_isN (by decide)]; exact z3, by rw [qx_isN (by decide)]; exact z4, qx_isE, fun _ => ?_⟩
          rw [qx_isN (by decide), z5, show min (pRun pDg B (len - p) p - p) 3 = pRun pDg B (len - p) p - p by omega]
        · rw [if_neg (nI_ge (by omega) (by omega)), if_neg g, pq_letM]
          exact ⟨_, rfl, pNyT n2 (pNyT n3 (pNyT z2 (pNyS ν' (by decide) _))), by rw [qx_isN (by decide)]; exact z3, by rw [qx_isN (by decide)]; exact z4, qx_isE, fun z => absurd z (by decide)⟩
      | false =>
        rw [if_pos (show pd_b false = 0 from rfl), if_neg (show ¬ false = true by decide), if_neg (show ¬ false = true by decide), e7, nI_1, pq_letM, pq_letM]
        obtain ⟨s1, s2, s3, s4⟩ := pSt_b (B p) hB
        have n3 : pNy m2 (zz_setI (zz_setI m2 0 7 (nI (p + 1))) 0 9 31) := pNyT (pNyS m2 (by decide) _) (pNyS _ (by decide) _)
        obtain ⟨ν', z1, z2, z3, z4, z5⟩ := pr_sign (B := B) (p := p) (by omega) 12 0 31 zz_fuel (zz_setI (zz_setI m2 0 7 (nI (p + 1))) 0 9 31) (by omega) (by omega) (pTxr_N h2 n3) (by rw [qx_isN (by decide), qx_isN (by decide)]; exact e6) qx_isE
        rw [nI_0] at z1
        refine ⟨ν', z1, pNyT n2 (pNyT n3 z2), ?_, ?_, z5, fun z => ?_⟩
        · rw [z3, qx_isN (by decide), qx_isN (by decide)]; exact e6
        · rw [z4, qx_isN (by decide), qx_isE]
        · omega
