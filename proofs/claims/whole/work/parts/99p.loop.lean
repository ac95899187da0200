/-! ===== 99p: a line, all lines, the head ===== -/
theorem pQd_q {B : Nat → Nat} {len e l : Nat} {μ ν : zz_Mem} (h : pQd B len e l μ ν) : pQm B len e μ ν := by
  rcases h with ⟨p, H, I, F, N, h1, h2, h3, h4⟩ | h | h
  · exact Or.inl ⟨p, h1, h2⟩
  · exact Or.inr (Or.inl h)
  · exact Or.inr (Or.inr h)
theorem ln_close {B : Nat → Nat} {len e l : Nat} {μ ν : zz_Mem} (hl : l < 2000) (h : pQd B len e l μ ν) : ∃ μ' ν', f_X7_readLine_120 μ = some μ' ∧ f_X12_closes ν = some ν' ∧ pWc μ μ' ∧ pWr ν ν' ∧ pQd B len (e + 1) (l + 1) μ' ν' := by
  obtain ⟨μ2, ν2, y1, y2, y3, y4, y5, y6⟩ := pq_sign (i := 0) (by omega) (pQd_q h)
  have y1' : f_X7_takeSign 59 μ = some μ2 := y1
  have eR := y2 _ (fun z => f_X12_closes_14 z)
  have eR' : f_X12_closes_14 ν2 = some (zz_setI ν2 4 0 (ν2.1 4 0 + 1)) := by unfold f_X12_closes_14; rw [pq_letM]
  have e2 : ∀ k, k ≠ 30 → μ2.1 k = μ.1 k := fun k hk => (y3.1 k (by simp <;> omega)).1
  have er2 : ν2.1 4 = ν.1 4 := (y4.1 4 (by simp)).1
  unfold f_X7_readLine_120 f_X12_closes
  rw [y1', pq_bndS, pq_letM]
  refine ⟨_, _, rfl, eR.trans eR', pWc_I (pWc_N (pWc0 μ) y3) (by simp) _ _, pWr_I (pWr_Z (pWr0 ν) y4) _ _, pQd_mk (pQm_M y5 ⟨fun _ _ => rfl, rfl, rfl⟩ ⟨fun _ _ => rfl, rfl⟩) (fun p2 hp2 o2 => ?_)⟩
  have o7 : μ.1 30 7 = 0 := y6 (show μ2.1 30 7 = 0 from pOK_7 o2)
  rcases h with ⟨p, H, I, F, N, h1, h2, ⟨g1, g2, g3, g4, gh⟩, h4⟩ | ⟨p, h⟩ | ⟨w, p, h⟩
  · have hm : ∀ k, k ≠ 16 → k ≠ 30 → (zz_setI μ2 16 2 (μ2.1 16 2 + 1)).1 k = μ.1 k := fun k k1 k2 => by rw [qx_in k1, e2 k k2]
    have hm16 : ∀ j, j ≠ 2 → (zz_setI μ2 16 2 (μ2.1 16 2 + 1)).1 16 j = μ.1 16 j := fun j j1 => by rw [qx_isN j1, e2 16 (by decide)]
    have hA : ∀ j, j ≠ 0 → (zz_setI ν2 4 0 (ν2.1 4 0 + 1)).1 4 j = ν.1 4 j := fun j j1 => by rw [qx_isN j1, er2]
    obtain ⟨d0, d1, d2, d3, d4, d5, d6, d7⟩ := gh
    have hle : N ≤ p2 := by
      have q := (pkE_b (B := B) h2.2.2.1 (fun j hj => (h2.1.2.1 j hj).1))
      obtain ⟨μ3, ν3, p3, s1, s2, s3, s4, s5, s6, s7⟩ := pj_next h2
      have k2 := po_takeSign (B := B) (len := len) (i := 0) (by omega) p μ ν h2
      by_cases c : pkK B len p = 32 + 0
      · rw [if_pos c, s1] at k2
        rw [k2] at y1
        obtain rfl : μ3 = μ2 := by simpa using y1
        have t1 : (zz_setI μ3 16 2 (μ3.1 16 2 + 1)).1 30 5 = nI p2 := o2.2.2.2.2.2.2.1
        have t2 : μ3.1 30 5 = nI p2 := t1
        rcases s7 with s7 | s7
        · have t3 := s7.2.2.2.2.2.2.1
          have t4 := s7.2.2.1
          have t5 := o2.2.2.1
          have t6 := s7.1.1
          rw [t2, nI_eq (by omega) (by omega)] at t3
          omega
        · exact absurd (show μ3.1 30 7 = 0 from pOK_7 o2) (pSto_n s7.1)
      · rw [if_neg c] at k2
        obtain ⟨μ4, ν4, r1, r2, r3, r4, r5⟩ := pj_failO h2 (w := 2) (by omega)
        have r1' : f_X7_fail 2 μ = some μ4 := r1
        rw [k2, r1'] at y1
        obtain rfl : μ4 = μ2 := by simpa using y1
        exact absurd (show μ4.1 30 7 = 0 from pOK_7 o2) (pSto_n r5.1)
    refine ⟨H, I, F, N, ⟨pG1_C g1 (hm16 3 (by decide)) (hm 17 (by decide) (by decide)) (fun j hj => hA j (by omega)), pG2_C g2 (hm16 5 (by decide)) (hm 18 (by decide) (by decide)) (hm 19 (by decide) (by decide)) (hm 20 (by decide) (by decide)) (hm 21 (by decide) (by decide)) (hm 28 (by decide) (by decide)) (fun j hj => hA j (by omega)), pG3_C g3 (hm16 10 (by decide)) (hm 22 (by decide) (by decide)) (hm 29 (by decide) (by decide)) (fun j hj => hA j (by omega)), pG4_C g4 (hm 23 (by decide) (by decide)) (hm 24 (by decide) (by decide)) (fun j hj => hA j (by omega)), ?_⟩, hle⟩
    refine ⟨by rw [hm16 0 (by decide), hA 1 (by decide)]; exact d0, by rw [hm16 1 (by decide), hA 2 (by decide)]; exact d1, by rw [qx_isE, e2 16 (by decide), d2, nI_1], by rw [qx_isE, er2, d3, nI_1], by rw [hm 27 (by decide) (by decide), hA 74 (by decide)]; exact d4, by rw [hA 85 (by decide)]; exact d5, by rw [hA 1 (by decide)]; exact d6, by rw [hA 2 (by decide)]; exact d7⟩
  · exact absurd o7 (pSto_n h.1)
  · exact absurd o7 (pSto_n h.1)
/-- a line -/
theorem ln_line {B : Nat → Nat} {len p H I Fl N l : Nat} {μ ν : zz_Mem} (ho : pOK B len p μ ν) (hd : pDx μ (ν.1 4) H I Fl N l) (hN : N ≤ p) (hl : l < 2000) : ∃ μ' ν1 ν', f_X7_readLine μ = some μ' ∧ f_X12_readLine ν = some ν1 ∧ f_X12_closes ν1 = some ν' ∧ pWc μ μ' ∧ pWr ν ν' ∧ pQd B len (p + 1) (l + 1) μ' ν' := by
  have w5 : f_X7_isWord 5 μ = some (pd_b (decide (pkK B len p = 4))) := pc_isW ho (w := 5) (by omega) (by omega)
  have w6 : f_X7_isWord 6 μ = some (pd_b (decide (pkK B len p = 5))) := pc_isW ho (w := 6) (by omega) (by omega)
  have w9 : f_X7_isWord 9 μ = some (pd_b (decide (pkK B len p = 7))) := pc_isW ho (w := 9) (by omega) (by omega)
  have w10 : f_X7_isWord 10 μ = some (pd_b (decide (pkK B len p = 8))) := pc_isW ho (w := 10) (by omega) (by omega)
  have w11 : f_X7_isWord 11 μ = some (pd_b (decide (pkK B len p = 10))) := pc_isW ho (w := 11) (by omega) (by omega)
  have w14 : f_X7_isWord 14 μ = some (pd_b (decide (pkK B len p = 13))) := pc_isW ho (w := 14) (by omega) (by omega)
  have w28 : f_X7_isWord 28 μ = some (pd_b (decide (pkK B len p = 14))) := pc_isW ho (w := 28) (by omega) (by omega)
  have i4 : f_X12_is ν 4 = some (pd_b (decide (pkK B len p = 4))) := pr_isO ho (k := 4) (by omega)
  have i5 : f_X12_is ν 5 = some (pd_b (decide (pkK B len p = 5))) := pr_isO ho (k := 5) (by omega)
  have i7 : f_X12_is ν 7 = some (pd_b (decide (pkK B len p = 7))) := pr_isO ho (k := 7) (by omega)
  have i8 : f_X12_is ν 8 = some (pd_b (decide (pkK B len p = 8))) := pr_isO ho (k := 8) (by omega)
  have i10 : f_X12_is ν 10 = some (pd_b (decide (pkK B len p = 10))) := pr_isO ho (k := 10) (by omega)
  have i13 : f_X12_is ν 13 = some (pd_b (decide (pkK B len p = 13))) := pr_isO ho (k := 13) (by omega)
  have i14 : f_X12_is ν 14 = some (pd_b (decide (pkK B len p = 14))) := pr_isO ho (k := 14) (by omega)
  have e9 : ν.1 0 9 = nI (pkK B len p) := ho.2.2.2.2.2.2.2.2.2.2.1
  have fin : ∀ μ1 ν1, f_X7_readLine μ = f_X7_readLine_120 μ1 → f_X12_readLine ν = some ν1 → pWc μ μ1 → pWr ν ν1 → pQd B len p l μ1 ν1 → ∃ μ' ν1 ν', f_X7_readLine μ = some μ' ∧ f_X12_readLine ν = some ν1 ∧ f_X12_closes ν1 = some ν' ∧ pWc μ μ' ∧ pWr ν ν' ∧ pQd B len (p + 1) (l + 1) μ' ν' := fun μ1 ν1 a1 a2 a3 a4 a5 => by
    obtain ⟨μ', ν', q1, q2, q3, q4, q5⟩ := ln_close hl a5
    exact ⟨μ', ν1, ν', a1.trans q1, a2, q2, pWcT a3 q3, pWrT a4 q4, q5⟩
  have wk : ∀ {μ1 ν1}, pQd B len (p + 1) l μ1 ν1 → pQd B len p l μ1 ν1 := fun {μ1 ν1} h => by
    rcases h with ⟨p2, H, I, F, N, h1, h2, h3, h4⟩ | h | h
    · exact Or.inl ⟨p2, H, I, F, N, by omega, h2, h3, h4⟩
    · exact Or.inr (Or.inl h)
    · exact Or.inr (Or.inr h)
  have t1 : ∀ {x y : Option zz_Mem}, (if pd_b true = 0 then x else y) = y := fun {x y} => if_neg (by decide)
  have t0 : ∀ {x y : Option zz_Mem}, (if pd_b false = 0 then x else y) = x := fun {x y} => if_pos rfl
  have e11 := pOK_11 ho
  by_cases c4 : pkK B len p = 4
  · obtain ⟨μ1, ν1, q1, q2, q3, q4, q5⟩ := ln_holiday p μ ν H I Fl N l ho c4 hd hN
    refine fin μ1 ν1 ?_ ?_ q3 q4 (wk q5)
    · unfold f_X7_readLine
      rw [w5, pq_bndS, decide_eq_true c4, t1, q1, pq_bndS]
    · unfold f_X12_readLine
      rw [if_pos e11, i4, pq_bndS, decide_eq_true c4, t1, q2, pq_bndS]
  by_cases c5 : pkK B len p = 5
  · obtain ⟨μ1, ν1, q1, q2, q3, q4, q5⟩ := ln_input (kd := 0) (t := 5) (by omega) p μ ν H I Fl N l ho c5 hd hN
    have q1' : f_X7_readInput 0 μ = some μ1 := q1
    refine fin μ1 ν1 ?_ ?_ q3 q4 (wk q5)
    · unfold f_X7_readLine
      rw [w5, pq_bndS, decide_eq_false c4, t0, w6, pq_bndS, decide_eq_true c5, t1, q1', pq_bndS]
    · unfold f_X12_readLine f_X12_readLine_49
      rw [if_pos e11, i4, pq_bndS, decide_eq_false c4, t0, i5, pq_bndS, decide_eq_true c5, t1, q2, pq_bndS]
  by_cases c7 : pkK B len p = 7
  · obtain ⟨μ1, ν1, q1, q2, q3, q4, q5⟩ := ln_input (kd := 1) (t := 7) (by omega) p μ ν H I Fl N l ho c7 hd hN
    have q1' : f_X7_readInput 1 μ = some μ1 := q1
    refine fin μ1 ν1 ?_ ?_ q3 q4 (wk q5)
    · unfold f_X7_readLine
      rw [w5, pq_bndS, decide_eq_false c4, t0, w6, pq_bndS, decide_eq_false c5, t0, w9, pq_bndS, decide_eq_true c7, t1, q1', pq_bndS]
    · unfold f_X12_readLine f_X12_readLine_49
      rw [if_pos e11, i4, pq_bndS, decide_eq_false c4, t0, i5, pq_bndS, decide_eq_false c5, t0, i7, pq_bndS, decide_eq_true c7, t1, q2, pq_bndS]
  by_cases c8 : pkK B len p = 8
  · obtain ⟨μ1, ν1, q1, q2, q3, q4, q5⟩ := ln_input (kd := 2) (t := 8) (by omega) p μ ν H I Fl N l ho c8 hd hN
    have q1' : f_X7_readInput 2 μ = some μ1 := q1
    refine fin μ1 ν1 ?_ ?_ q3 q4 (wk q5)
    · unfold f_X7_readLine
      rw [w5, pq_bndS, decide_eq_false c4, t0, w6, pq_bndS, decide_eq_false c5, t0, w9, pq_bndS, decide_eq_false c7, t0, w10, pq_bndS, decide_eq_true c8, t1, q1', pq_bndS]
    · unfold f_X12_readLine f_X12_readLine_49
      rw [if_pos e11, i4, pq_bndS, decide_eq_false c4, t0, i5, pq_bndS, decide_eq_false c5, t0, i7, pq_bndS, decide_eq_false c7, t0, i8, pq_bndS, decide_eq_true c8, t1, q2, pq_bndS]
  by_cases c10 : pkK B len p = 10
  · obtain ⟨μ1, ν1, q1, q2, q3, q4, q5⟩ := ln_flow p μ ν H I Fl N l ho c10 hd hN
    refine fin μ1 ν1 ?_ ?_ q3 q4 (wk q5)
    · unfold f_X7_readLine
      rw [w5, pq_bndS, decide_eq_false c4, t0, w6, pq_bndS, decide_eq_false c5, t0, w9, pq_bndS, decide_eq_false c7, t0, w10, pq_bndS, decide_eq_false c8, t0, w11, pq_bndS, decide_eq_true c10, t1, q1, pq_bndS]
    · unfold f_X12_readLine
      rw [if_pos e11, i4, pq_bndS, decide_eq_false c4, t0, i5, pq_bndS, decide_eq_false c5, t0, i7, pq_bndS, decide_eq_false c7, t0, i8, pq_bndS, decide_eq_false c8, t0, i10, pq_bndS, decide_eq_true c10, t1, q2, pq_bndS]
  by_cases c13 : pkK B len p = 13
  · obtain ⟨μ1, ν1, q1, q2, q3, q4, q5⟩ := ln_rates p μ ν H I Fl N l ho c13 hd hN
    refine fin μ1 ν1 ?_ ?_ q3 q4 (wk q5)
    · unfold f_X7_readLine
      rw [w5, pq_bndS, decide_eq_false c4, t0, w6, pq_bndS, decide_eq_false c5, t0, w9, pq_bndS, decide_eq_false c7, t0, w10, pq_bndS, decide_eq_false c8, t0, w11, pq_bndS, decide_eq_false c10, t0, w14, pq_bndS, decide_eq_true c13, t1, q1, pq_bndS]
    · unfold f_X12_readLine f_X12_readLine_90
      rw [if_pos e11, i4, pq_bndS, decide_eq_false c4, t0, i5, pq_bndS, decide_eq_false c5, t0, i7, pq_bndS, decide_eq_false c7, t0, i8, pq_bndS, decide_eq_false c8, t0, i10, pq_bndS, decide_eq_false c10, t0, i13, pq_bndS, decide_eq_true c13, t1, e9, c13, show nI 13 - 13 = (0 : Int32) from rfl, q2, pq_bndS]
  by_cases c14 : pkK B len p = 14
  · obtain ⟨μ1, ν1, q1, q2, q3, q4, q5⟩ := ln_opens p μ ν H I Fl N l ho c14 hd hN
    refine fin μ1 ν1 ?_ ?_ q3 q4 (wk q5)
    · unfold f_X7_readLine
      rw [w5, pq_bndS, decide_eq_false c4, t0, w6, pq_bndS, decide_eq_false c5, t0, w9, pq_bndS, decide_eq_false c7, t0, w10, pq_bndS, decide_eq_false c8, t0, w11, pq_bndS, decide_eq_false c10, t0, w14, pq_bndS, decide_eq_false c13, t0, w28, pq_bndS, decide_eq_true c14, t1, q1, pq_bndS]
    · unfold f_X12_readLine f_X12_readLine_90
      rw [if_pos e11, i4, pq_bndS, decide_eq_false c4, t0, i5, pq_bndS, decide_eq_false c5, t0, i7, pq_bndS, decide_eq_false c7, t0, i8, pq_bndS, decide_eq_false c8, t0, i10, pq_bndS, decide_eq_false c10, t0, i13, pq_bndS, decide_eq_false c13, t0, i14, pq_bndS, decide_eq_true c14, t1, e9, c14, show nI 14 - 13 = (1 : Int32) from rfl, q2, pq_bndS]
  obtain ⟨μ1, ν1, q1, q2, q3, q4, q5⟩ := pj_failO ho (w := 2) (by omega)
  have q1' : f_X7_fail 2 μ = some μ1 := q1
  have q2' : f_X12_fails 2 ν = some ν1 := q2
  refine fin μ1 ν1 ?_ ?_ (pWc_N (pWc0 μ) q3) (pWr_Z (pWr0 ν) q4) (Or.inr (Or.inr ⟨2, p, q5⟩))
  · unfold f_X7_readLine
    rw [w5, pq_bndS, decide_eq_false c4, t0, w6, pq_bndS, decide_eq_false c5, t0, w9, pq_bndS, decide_eq_false c7, t0, w10, pq_bndS, decide_eq_false c8, t0, w11, pq_bndS, decide_eq_false c10, t0, w14, pq_bndS, decide_eq_false c13, t0, w28, pq_bndS, decide_eq_false c14, t0, q1', pq_bndS]
  · unfold f_X12_readLine
    rw [if_pos e11, i4, pq_bndS, decide_eq_false c4, t0, i5, pq_bndS, decide_eq_false c5, t0, i7, pq_bndS, decide_eq_false c7, t0, i8, pq_bndS, decide_eq_false c8, t0, i10, pq_bndS, decide_eq_false c10, t0, i13, pq_bndS, decide_eq_false c13, t0, i14, pq_bndS, decide_eq_false c14, t0, q2', pq_bndS]
theorem pTk_0 : ∀ t, t < 44 → t ≠ 31 → (pTk t = 0 ↔ t = 30) ∧ pTk t < 256 := by decide +kernel
theorem po_n0 {B : Nat → Nat} {len p1 : Nat} {m n : zz_Mem} (h : pOK B len p1 m n) : m.1 30 4 = 0 ↔ pkK B len p1 = 30 := by
  obtain ⟨h1, h2, hp, h31, h3, h4, -⟩ := h
  have k5 := (pkE_b (B := B) hp (fun j hj => (h1.2.1 j hj).1)).2.2.2.2
  obtain ⟨a, b⟩ := pTk_0 _ k5 h31
  have l0 : (0 : Int32) = nI 0 := rfl
  rw [h4, l0, nI_eq (by omega) (by omega)]
  exact a
/-- all lines -/
theorem ln_loop {B : Nat → Nat} {len : Nat} : ∀ (r k fuel fuel' : Nat) (μ ν : zz_Mem), k + r = 900 → r < fuel → r + 1 < fuel' → pQd B len (k + 1) (k + 1) μ ν → ∃ μ' ν', f_X7_read_51 fuel (nI k) μ = some μ' ∧ f_X12_desk_112 fuel' ν = f_X12_desk_139 ν' ∧ pWc μ μ' ∧ pWr ν ν' ∧ ((∃ p H I F N l, pOK B len p μ' ν' ∧ pDx μ' (ν'.1 4) H I F N l ∧ N ≤ 900 ∧ l ≤ 901) ∨ ∃ w p, pFld B len w p μ' ν') := by
  have l30 : (30 : Int32) = nI 30 := rfl
  have l900 : (900 : Int32) = nI 900 := rfl
  -- the class has ended
  have endC : ∀ (fu k : Nat) (m : zz_Mem), (m.1 30 4 = 0 ∨ m.1 30 4 = 3) → f_X7_read_51 (fu + 1) (nI k) m = some m := fun fu k m h => by
    rw [f_X7_read_51]
    by_cases h9 : (900 : Int32) ≤ nI k
    · rw [if_pos h9]
    · rw [if_neg h9]
      by_cases h0 : m.1 30 4 = 0
      · rw [if_pos h0]
      · rw [if_neg h0, if_pos (h.resolve_left h0)]
  have endF : ∀ (fu : Nat) (n : zz_Mem), pFx n → f_X12_desk_112 (fu + 1) n = f_X12_desk_139 n := fun fu n h => by
    rw [f_X12_desk_112, if_neg h]
  intro r
  induction r with
  | zero =>
    intro k fuel fuel' μ ν h1 h2 h3 h
    obtain ⟨fu, rfl⟩ : ∃ n, fuel = n + 1 := ⟨fuel - 1, by omega⟩
    obtain ⟨fu', rfl⟩ : ∃ n, fuel' = n + 2 := ⟨fuel' - 2, by omega⟩
    rcases h with ⟨p, H, I, F, N, q1, q2, q3, q4⟩ | ⟨p, hb⟩ | ⟨w, p, hf⟩
    · have s1 := q2.2.2.1
      have s2 := q2.1.1
      omega
    · obtain ⟨ν2, z1, z2, z3, z4⟩ := pr_failB 2 hb
      have z1' : f_X12_fails 2 ν = some ν2 := z1
      have is : ∀ k, k < 44 → k ≠ 31 → f_X12_is ν (nI k) = some 0 := fun k k1 k2 => pr_isB hb k1 k2
      have hx : pFx ν2 := by unfold pFx; rw [z3]; exact pr_n0 (by omega)
      have eL : f_X12_readLine ν = some ν2 := by
        unfold f_X12_readLine
        rw [if_pos hb.2.2.2.2.2, show f_X12_is ν 4 = some 0 from is 4 (by omega) (by omega), pq_bndS, if_pos rfl, show f_X12_is ν 5 = some 0 from is 5 (by omega) (by omega), pq_bndS, if_pos rfl, show f_X12_is ν 7 = some 0 from is 7 (by omega) (by omega), pq_bndS, if_pos rfl, show f_X12_is ν 8 = some 0 from is 8 (by omega) (by omega), pq_bndS, if_pos rfl, show f_X12_is ν 10 = some 0 from is 10 (by omega) (by omega), pq_bndS, if_pos rfl, show f_X12_is ν 13 = some 0 from is 13 (by omega) (by omega), pq_bndS, if_pos rfl, show f_X12_is ν 14 = some 0 from is 14 (by omega) (by omega), pq_bndS, if_pos rfl, z1', pq_bndS]
      have eK : f_X12_closes ν2 = some (zz_setI ν2 4 0 (ν2.1 4 0 + 1)) := by
        unfold f_X12_closes f_X12_closes_14
        rw [fx_eats hx, pq_bnd2, if_pos rfl, fx_fails hx, pq_bndS, pq_letM]
      refine ⟨μ, zz_setI ν2 4 0 (ν2.1 4 0 + 1), endC fu k μ (Or.inr hb.1.2.2.1), ?_, pWc0 μ, pWr_I (pWr_Z (pWr0 ν) z2) _ _, Or.inr ⟨1, p, hb.1, z3, z4⟩⟩
      rw [f_X12_desk_112, if_pos hb.2.2.2.2.2, hb.2.2.2.2.1, if_neg (show ¬ nI 31 = 30 by decide), eL, pq_bndS, eK, pq_bndS]
      exact endF fu' _ hx
    · exact ⟨μ, ν, endC fu k μ (Or.inr hf.1.2.2.1), endF (fu' + 1) ν (pFld_x hf), pWc0 μ, pWr0 ν, Or.inr ⟨w, p, hf⟩⟩
  | succ r ih =>
    intro k fuel fuel' μ ν h1 h2 h3 h
    obtain ⟨fu, rfl⟩ : ∃ n, fuel = n + 1 := ⟨fuel - 1, by omega⟩
    obtain ⟨fu', rfl⟩ : ∃ n, fuel' = n + 2 := ⟨fuel' - 2, by omega⟩
    rcases h with ⟨p, H, I, F, N, q1, q2, q3, q4⟩ | ⟨p, hb⟩ | ⟨w, p, hf⟩
    · have s1 := q2.2.2.1
      have s2 := q2.1.1
      have e9 : ν.1 0 9 = nI (pkK B len p) := q2.2.2.2.2.2.2.2.2.2.2.1
      have k5 := (pkE_b (B := B) q2.2.2.1 (fun j hj => (q2.1.2.1 j hj).1)).2.2.2.2
      by_cases c : pkK B len p = 30
      · refine ⟨μ, ν, endC fu k μ (Or.inl ((po_n0 q2).mpr c)), ?_, pWc0 μ, pWr0 ν, Or.inl ⟨p, H, I, F, N, k + 1, q2, q3, by omega, by omega⟩⟩
        rw [f_X12_desk_112, if_pos (pOK_11 q2), e9, c, if_pos (show nI 30 = 30 from rfl)]
      · obtain ⟨μ1, ν1, ν2, a1, a2, a3, a4, a5, a6⟩ := ln_line q2 q3 q4 (by omega)
        have a6' : pQd B len (k + 1 + 1) (k + 1 + 1) μ1 ν2 := by
          rcases a6 with ⟨p2, H, I, F, N, h1, h2, h3, h4⟩ | h | h
          · exact Or.inl ⟨p2, H, I, F, N, by omega, h2, h3, h4⟩
          · exact Or.inr (Or.inl h)
          · exact Or.inr (Or.inr h)
        obtain ⟨μ', ν', b1, b2, b3, b4, b5⟩ := ih (k + 1) fu (fu' + 1) μ1 ν2 (by omega) (by omega) (by omega) a6'
        refine ⟨μ', ν', ?_, ?_, pWcT a4 b3, pWrT a5 b4, b5⟩
        · rw [f_X7_read_51, l900, if_neg (nI_ge (by omega) (by omega)), if_neg (fun z => c ((po_n0 q2).mp z)), if_neg (po_n3 q2), a1, pq_bndS, nI_1, pq_letI]
          exact b1
        · rw [f_X12_desk_112, if_pos (pOK_11 q2), e9, l30, if_neg (by rw [nI_eq (by omega) (by omega)]; exact c), a2, pq_bndS, a3, pq_bndS]
          exact b2
    · obtain ⟨ν2, z1, z2, z3, z4⟩ := pr_failB 2 hb
      have z1' : f_X12_fails 2 ν = some ν2 := z1
      have is : ∀ k, k < 44 → k ≠ 31 → f_X12_is ν (nI k) = some 0 := fun k k1 k2 => pr_isB hb k1 k2
      have hx : pFx ν2 := by unfold pFx; rw [z3]; exact pr_n0 (by omega)
      have eL : f_X12_readLine ν = some ν2 := by
        unfold f_X12_readLine
        rw [if_pos hb.2.2.2.2.2, show f_X12_is ν 4 = some 0 from is 4 (by omega) (by omega), pq_bndS, if_pos rfl, show f_X12_is ν 5 = some 0 from is 5 (by omega) (by omega), pq_bndS, if_pos rfl, show f_X12_is ν 7 = some 0 from is 7 (by omega) (by omega), pq_bndS, if_pos rfl, show f_X12_is ν 8 = some 0 from is 8 (by omega) (by omega), pq_bndS, if_pos rfl, show f_X12_is ν 10 = some 0 from is 10 (by omega) (by omega), pq_bndS, if_pos rfl, show f_X12_is ν 13 = some 0 from is 13 (by omega) (by omega), pq_bndS, if_pos rfl, show f_X12_is ν 14 = some 0 from is 14 (by omega) (by omega), pq_bndS, if_pos rfl, z1', pq_bndS]
      have eK : f_X12_closes ν2 = some (zz_setI ν2 4 0 (ν2.1 4 0 + 1)) := by
        unfold f_X12_closes f_X12_closes_14
        rw [fx_eats hx, pq_bnd2, if_pos rfl, fx_fails hx, pq_bndS, pq_letM]
      refine ⟨μ, zz_setI ν2 4 0 (ν2.1 4 0 + 1), endC fu k μ (Or.inr hb.1.2.2.1), ?_, pWc0 μ, pWr_I (pWr_Z (pWr0 ν) z2) _ _, Or.inr ⟨1, p, hb.1, z3, z4⟩⟩
      rw [f_X12_desk_112, if_pos hb.2.2.2.2.2, hb.2.2.2.2.1, if_neg (show ¬ nI 31 = 30 by decide), eL, pq_bndS, eK, pq_bndS]
      exact endF fu' _ hx
    · exact ⟨μ, ν, endC fu k μ (Or.inr hf.1.2.2.1), endF (fu' + 1) ν (pFld_x hf), pWc0 μ, pWr0 ν, Or.inr ⟨w, p, hf⟩⟩
