/-! ===== 99e: units ===== -/
theorem pg_unit {B : Nat → Nat} {len sh lo hi D Dc Du Dt dd : Nat} {g g' : Nat → Int32 → zz_Mem → Option zz_Mem} (hd : dd ≤ 6) (hcomp : pGr B len sh lo hi true Dc (g 7 (nI dd)) (pRc g' (nI dd))) (hzU : dd < 6 → pZd B len (g 6 (nI (dd + 1))) (g' 6 (nI (dd + 1)))) (hU : dd < 6 → pGr B len sh lo hi true Du (g 6 (nI (dd + 1))) (g' 6 (nI (dd + 1)))) (hzT : dd < 6 → pZd B len (g 4 (nI (dd + 1))) (g' 4 (nI (dd + 1)))) (hT : dd < 6 → pGr B len sh lo hi true Dt (g 4 (nI (dd + 1))) (g' 4 (nI (dd + 1)))) (hBU : dd < 6 → ∀ p m n n1, pBad B len p m n → f_X12_fails 2 n = some n1 → pFx n1 → g' 6 (nI (dd + 1)) n = some n1) (hBT : dd < 6 → ∀ p m n n1, pBad B len p m n → f_X12_fails 2 n = some n1 → pFx n1 → g' 4 (nI (dd + 1)) n = some n1) (d1 : Dc ≤ D) (d2 : Du ≤ D) (d3 : Dt ≤ D) : pGr B len sh lo hi true D (f_X7_readUnit g (nI dd)) (f_X12_readUnit g' (nI dd)) := by
  intro N p m n hlw ho h1 h2 hN
  have hl := ho.1.1
  have s0 : pSt2 B len sh lo hi N p m n [] 0 0 0 m n := ps_start ho h1 h2
  have ap : pAp sh N [] m n m n := ⟨h1, h2, fun _ _ => ⟨rfl, rfl⟩, fun i hi => absurd hi (Nat.not_lt_zero _)⟩
  have w27 : f_X7_isWord 16 m = some (pd_b (decide (pkK B len p = 27))) := pc_isW ho (w := 16) (by omega) (by omega)
  have i27 : f_X12_is n 27 = some (pd_b (decide (pkK B len p = 27))) := pr_isO ho (k := 27) (by omega)
  have i39 : f_X12_is n 39 = some (pd_b (decide (pkK B len p = 39))) := pr_isO ho (k := 39) (by omega)
  have e39 : m.1 30 4 = 91 ↔ pkK B len p = 39 := po_sign ho (i := 7) (by omega)
  unfold f_X7_readUnit f_X12_readUnit
  rw [w27, i27, pq_bndS, pq_bndS]
  by_cases c1 : pkK B len p = 27
  · rw [decide_eq_true c1, if_neg (show ¬ pd_b true = 0 by decide), if_neg (show ¬ pd_b true = 0 by decide), nI_1]
    exact ps_nest (T := []) (C := []) (e := 0) (D := 0) (T' := [true]) (D' := D) hd hN hl (pEc0 m) (pEr0 n) (by simp) ho (pEx_nil lo hi) ap (by omega) (KC := fun m6 => zz_bndR (g 6 (nI (dd + 1)) m6) fun m7 => zz_bndR (f_X3_add 2008 m7) fun m8 => some m8) (KR := fun m13 => zz_bndR (g' 6 (nI (dd + 1)) m13) fun m14 => zz_bndR (f_X12_codes 3006 m14) fun m15 => some m15) (fun hlt μ2 ν2 st => by
        obtain ⟨μ3, ν3, a1, a2, a3⟩ := ps_sub (b := true) (D2 := Du) (D3 := D) hN hl (hzU hlt) (fun N' p' m' n' ec er o b1 b2 b3 => hU hlt N' p' m' n' (pLw_E hlw ec er) o b1 b2 b3) st (by omega) (by simpa using d2)
        obtain ⟨μ4, ν4, v1, v2, v3⟩ := ps_code (T' := [true]) (c := 3006) hN hl wf_not a3
        have v1' : f_X3_add 2008 μ3 = some μ4 := v1
        exact ⟨μ4, ν4, by show zz_bndR (g 6 (nI (dd + 1)) μ2) _ = _; rw [a1, pq_bndS, v1', pq_bndS], by show zz_bndR (g' 6 (nI (dd + 1)) ν2) _ = _; rw [a2, pq_bndS, v2, pq_bndS], ps_less v3 (Nat.le_refl _) (Nat.le_refl _) (Nat.zero_le _)⟩) (fun hlt p' m' n' n1 hb e f => by
        show zz_bndR (g' 6 (nI (dd + 1)) n') _ = _
        rw [hBU hlt p' m' n' n1 hb e f, pq_bndS, fx_codes f, pq_bndS])
  · rw [decide_eq_false c1, if_pos (show pd_b false = 0 from rfl), if_pos (show pd_b false = 0 from rfl), i39, pq_bndS]
    by_cases c2 : pkK B len p = 39
    · rw [if_pos (e39.mpr c2), decide_eq_true c2, if_neg (show ¬ pd_b true = 0 by decide), nI_1]
      exact ps_nest (T := []) (C := []) (e := 0) (D := 0) (T' := [true]) (D' := D) hd hN hl (pEc0 m) (pEr0 n) (by simp) ho (pEx_nil lo hi) ap (by omega) (KC := fun m3 => zz_bndR (g 4 (nI (dd + 1)) m3) fun m4 => zz_bndR (f_X7_takeSign 93 m4) fun m5 => some m5) (KR := fun m7 => zz_bndR (g' 4 (nI (dd + 1)) m7) fun m8 => zz_bnd (f_X12_eats 40 m8) fun r9 m10 => if r9 = 0 then (zz_bndR (f_X12_fails 2 m10) fun m11 => some m11) else some m10) (fun hlt μ2 ν2 st => by
          obtain ⟨μ3, ν3, a1, a2, a3⟩ := ps_sub (b := true) (D2 := Dt) (D3 := D) hN hl (hzT hlt) (fun N' p' m' n' ec er o b1 b2 b3 => hT hlt N' p' m' n' (pLw_E hlw ec er) o b1 b2 b3) st (by omega) (by simpa using d3)
          obtain ⟨μ4, ν4, v1, v2, v3⟩ := ps_expect (t := 40) (F := f_X7_takeSign (nI (pSg 8))) hN hl (by omega) (by omega) (by omega) (po_takeSign (by omega)) (fun w p m h => sc_takeSign h (by decide)) a3
          have v1' : f_X7_takeSign 93 μ3 = some μ4 := v1
          have v2' := v2 (fun z => some z)
          exact ⟨μ4, ν4, by show zz_bndR (g 4 (nI (dd + 1)) μ2) _ = _; rw [a1, pq_bndS, v1', pq_bndS], by show zz_bndR (g' 4 (nI (dd + 1)) ν2) _ = _; rw [a2, pq_bndS]; exact v2', ps_less v3 (Nat.zero_le _) (Nat.le_refl _) (Nat.zero_le _)⟩) (fun hlt p' m' n' n1 hb e f => by
          show zz_bndR (g' 4 (nI (dd + 1)) n') _ = _
          rw [hBT hlt p' m' n' n1 hb e f, pq_bndS, fx_eats f, pq_bnd2, if_pos rfl, fx_fails f, pq_bndS])
    · rw [if_neg (fun z => c2 (e39.mp z)), decide_eq_false c2, if_pos (show pd_b false = 0 from rfl), pu_bS]
      obtain ⟨m', n', a1, a2, a3⟩ := hcomp N p m n hlw ho h1 h2 hN
      exact ⟨m', n', a1, a2, ps_less a3 (Nat.le_refl _) d1 (Nat.le_refl _)⟩
