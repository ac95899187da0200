/-! ===== 99: terms, sums, truths ===== -/
theorem wf_ar {lo hi : Nat} {c : Int32} (hc : c = 3000 ∨ c = 3001 ∨ c = 3002) : ∀ bb s rest, pe_wf lo hi bb rest ([false] ++ s) → pe_wf lo hi bb (c :: rest) ([false, false] ++ s) := by
  intro bb s rest h
  rcases hc with rfl | rfl | rfl
  all_goals
    rw [pe_wf, if_pos (by decide), if_neg (by decide), if_neg (by decide), if_neg (by decide), if_neg (by decide), if_pos (by decide)]
    exact ⟨s, rfl, h⟩
theorem wf_lo {lo hi : Nat} {c : Int32} (hc : c = 3007 ∨ c = 3008) : ∀ bb s rest, pe_wf lo hi bb rest ([true] ++ s) → pe_wf lo hi bb (c :: rest) ([true, true] ++ s) := by
  intro bb s rest h
  rcases hc with rfl | rfl
  all_goals
    rw [pe_wf, if_pos (by decide), if_neg (by decide), if_neg (by decide), if_pos (by decide)]
    exact ⟨s, rfl, h⟩
theorem wf_cm {lo hi : Nat} {c : Int32} (hc : c = 3003 ∨ c = 3004 ∨ c = 3005) : ∀ bb s rest, pe_wf lo hi bb rest ([true] ++ s) → pe_wf lo hi bb (c :: rest) ([false, false] ++ s) := by
  intro bb s rest h
  rcases hc with rfl | rfl | rfl
  all_goals
    rw [pe_wf, if_pos (by decide), if_neg (by decide), if_neg (by decide), if_neg (by decide), if_pos (by decide)]
    exact ⟨s, rfl, h⟩
theorem wf_not {lo hi : Nat} : ∀ bb s rest, pe_wf lo hi bb rest ([true] ++ s) → pe_wf lo hi bb (3006 :: rest) ([true] ++ s) := by
  intro bb s rest h
  rw [pe_wf, if_pos (by decide), if_pos rfl]
  exact ⟨s, rfl, h⟩
theorem wf_if {lo hi : Nat} : ∀ bb s rest, pe_wf lo hi bb rest ([false] ++ s) → pe_wf lo hi bb (3009 :: rest) ([false, false, true] ++ s) := by
  intro bb s rest h
  rw [pe_wf, if_pos (by decide), if_neg (by decide), if_pos rfl]
  exact ⟨s, rfl, h⟩
theorem pg_term {B : Nat → Nat} {len sh lo hi D : Nat} {g g' : Nat → Int32 → zz_Mem → Option zz_Mem} {d : Int32} (hz : pZd B len (g 2 d) (g' 2 d)) (hs : pGr B len sh lo hi false D (g 2 d) (g' 2 d)) : pGr B len sh lo hi false (D + 1) (f_X7_readTerm g d) (f_X12_readTerm g' d) := by
  intro N p m n hlw ho h1 h2 hN
  have hfu : zz_fuel = 5000 := rfl
  have hl := ho.1.1
  obtain ⟨μ1, ν1, y1, y2, y3⟩ := ps_sub (b := false) (D2 := D) (D3 := D + 1) hN hl hz (fun N' p' m' n' ec er o a1 a2 a3 => hs N' p' m' n' (pLw_E hlw ec er) o a1 a2 a3) (ps_start ho h1 h2) (by omega) (by simp)
  obtain ⟨μ2, ν2, z1, z2, z3⟩ := ps_chain (t := 36) (c := 3002) (L := fun fuel k m => f_X7_readTerm_7 g fuel d k m) (R := fun fuel n => f_X12_readTerm_5 g' fuel d n) hlw hN hl (by omega) (by omega) (by omega) hz hs (wf_ar (Or.inr (Or.inr rfl))) (fun fuel k p1 m n o => by
      show f_X7_readTerm_7 g (fuel + 1) d (nI k) m = _
      rw [f_X7_readTerm_7]
      simp only [pq_letI, nI_1]
      have e := po_sign o (i := 4) (by omega)
      have e' : m.1 30 4 = 42 ↔ pkK B len p1 = 36 := e
      by_cases c : pkK B len p1 = 36
      · rw [if_pos (e'.mpr c), if_pos c]; rfl
      · rw [if_neg (fun z => c (e'.mp z)), if_neg c]) (fun fuel k w p1 m s => by
      show f_X7_readTerm_7 g (fuel + 1) d (nI k) m = _
      rw [f_X7_readTerm_7, s.2.2.1, if_neg (show ¬ (3 : Int32) = 42 by decide)]
      split <;> rfl) (fun fuel n => rfl) 900 0 zz_fuel zz_fuel μ1 ν1 (by omega) (by omega) (by omega) y3
  refine ⟨μ2, ν2, ?_, ?_, z3⟩
  · unfold f_X7_readTerm
    rw [y1, pq_bndS]; exact z1
  · unfold f_X12_readTerm
    rw [y2, pq_bndS]; exact z2
theorem pg_both {B : Nat → Nat} {len sh lo hi D : Nat} {g g' : Nat → Int32 → zz_Mem → Option zz_Mem} {d : Int32} (hz : pZd B len (g 6 d) (g' 6 d)) (hs : pGr B len sh lo hi true D (g 6 d) (g' 6 d)) : pGr B len sh lo hi true (D + 1) (f_X7_readBoth g d) (f_X12_readBoth g' d) := by
  intro N p m n hlw ho h1 h2 hN
  have hfu : zz_fuel = 5000 := rfl
  have hl := ho.1.1
  obtain ⟨μ1, ν1, y1, y2, y3⟩ := ps_sub (b := true) (D2 := D) (D3 := D + 1) hN hl hz (fun N' p' m' n' ec er o a1 a2 a3 => hs N' p' m' n' (pLw_E hlw ec er) o a1 a2 a3) (ps_start ho h1 h2) (by omega) (by simp)
  obtain ⟨μ2, ν2, z1, z2, z3⟩ := ps_chain (t := 25) (c := 3007) (L := fun fuel k m => f_X7_readBoth_7 g fuel d k m) (R := fun fuel n => f_X12_readBoth_5 g' fuel d n) hlw hN hl (by omega) (by omega) (by omega) hz hs (wf_lo (Or.inl rfl)) (fun fuel k p1 m n o => by
      show f_X7_readBoth_7 g (fuel + 1) d (nI k) m = _
      rw [f_X7_readBoth_7, pc_isW o (w := 17) (by omega) (by omega), pq_bndS]
      simp only [pq_letI, nI_1]
      have ek : pWk 17 = 25 := rfl
      rw [ek]
      by_cases c : pkK B len p1 = 25
      · rw [decide_eq_true c, if_neg (show ¬ pd_b true = 0 by decide), if_pos c]; rfl
      · rw [decide_eq_false c, if_pos (show pd_b false = 0 from rfl), if_neg c]) (fun fuel k w p1 m s => by
      show f_X7_readBoth_7 g (fuel + 1) d (nI k) m = _
      rw [f_X7_readBoth_7, pc_isW0 s, pq_bndS, if_pos rfl]
      split <;> rfl) (fun fuel n => rfl) 900 0 zz_fuel zz_fuel μ1 ν1 (by omega) (by omega) (by omega) y3
  refine ⟨μ2, ν2, ?_, ?_, z3⟩
  · unfold f_X7_readBoth
    rw [y1, pq_bndS]; exact z1
  · unfold f_X12_readBoth
    rw [y2, pq_bndS]; exact z2
theorem pg_truth {B : Nat → Nat} {len sh lo hi D : Nat} {g g' : Nat → Int32 → zz_Mem → Option zz_Mem} {d : Int32} (hz : pZd B len (g 5 d) (g' 5 d)) (hs : pGr B len sh lo hi true D (g 5 d) (g' 5 d)) : pGr B len sh lo hi true (D + 1) (f_X7_readTruth g d) (f_X12_readTruth g' d) := by
  intro N p m n hlw ho h1 h2 hN
  have hfu : zz_fuel = 5000 := rfl
  have hl := ho.1.1
  obtain ⟨μ1, ν1, y1, y2, y3⟩ := ps_sub (b := true) (D2 := D) (D3 := D + 1) hN hl hz (fun N' p' m' n' ec er o a1 a2 a3 => hs N' p' m' n' (pLw_E hlw ec er) o a1 a2 a3) (ps_start ho h1 h2) (by omega) (by simp)
  obtain ⟨μ2, ν2, z1, z2, z3⟩ := ps_chain (t := 26) (c := 3008) (L := fun fuel k m => f_X7_readTruth_7 g fuel d k m) (R := fun fuel n => f_X12_readTruth_5 g' fuel d n) hlw hN hl (by omega) (by omega) (by omega) hz hs (wf_lo (Or.inr rfl)) (fun fuel k p1 m n o => by
      show f_X7_readTruth_7 g (fuel + 1) d (nI k) m = _
      rw [f_X7_readTruth_7, pc_isW o (w := 18) (by omega) (by omega), pq_bndS]
      simp only [pq_letI, nI_1]
      have ek : pWk 18 = 26 := rfl
      rw [ek]
      by_cases c : pkK B len p1 = 26
      · rw [decide_eq_true c, if_neg (show ¬ pd_b true = 0 by decide), if_pos c]; rfl
      · rw [decide_eq_false c, if_pos (show pd_b false = 0 from rfl), if_neg c]) (fun fuel k w p1 m s => by
      show f_X7_readTruth_7 g (fuel + 1) d (nI k) m = _
      rw [f_X7_readTruth_7, pc_isW0 s, pq_bndS, if_pos rfl]
      split <;> rfl) (fun fuel n => rfl) 900 0 zz_fuel zz_fuel μ1 ν1 (by omega) (by omega) (by omega) y3
  refine ⟨μ2, ν2, ?_, ?_, z3⟩
  · unfold f_X7_readTruth
    rw [y1, pq_bndS]; exact z1
  · unfold f_X12_readTruth
    rw [y2, pq_bndS]; exact z2
