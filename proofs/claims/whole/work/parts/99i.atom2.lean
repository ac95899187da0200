/-! ===== 99i: atoms, both readers ===== -/
theorem pTk_2 : ∀ t, t < 44 → t ≠ 31 → (pTk t = 2 ↔ t = 29) ∧ pTk t < 256 := by decide +kernel
theorem po_n2 {B : Nat → Nat} {len p1 : Nat} {m n : zz_Mem} (h : pOK B len p1 m n) : m.1 30 4 = 2 ↔ pkK B len p1 = 29 := by
  obtain ⟨h1, h2, hp, h31, h3, h4, -⟩ := h
  have k5 := (pkE_b (B := B) hp (fun j hj => (h1.2.1 j hj).1)).2.2.2.2
  obtain ⟨a, b⟩ := pTk_2 _ k5 h31
  have l2 : (2 : Int32) = nI 2 := rfl
  rw [h4, l2, nI_eq (by omega) (by omega)]
  exact a
theorem po_num {B : Nat → Nat} {len p : Nat} (hB : ∀ j, j < len → B j < 256) (hp : p ≤ len) (h : pkK B len p = 29) : pVl B p (pkE B len p - p) < 1000 := by
  unfold pkK at h
  unfold pkE
  by_cases c : len ≤ p
  · rw [if_pos c] at h; omega
  · rw [if_neg c] at h ⊢
    by_cases d : pLt (B p) = true
    · rw [if_pos d] at h
      have := pKey_b B p (pRun pLt B (len - p) p)
      omega
    · rw [if_neg d] at h ⊢
      by_cases e : pDg (B p) = true
      · rw [if_pos e] at h ⊢
        have hr := pRun_b pDg B (len - p) p
        have h3 : pRun pDg B (len - p) p - p ≤ 3 := by
          by_cases f : pRun pDg B (len - p) p - p ≤ 3
          · exact f
          · rw [if_neg f] at h; omega
        have hv := pVl_b (B := B) (p := p) (pRun pDg B (len - p) p - p) (fun j hj => hr.2.2 (p + j) (by omega) (by omega))
        exact Nat.lt_of_lt_of_le hv (show 10 ^ (pRun pDg B (len - p) p - p) ≤ 10 ^ 3 from Nat.pow_le_pow_right (by omega) h3)
      · rw [if_neg e] at h
        have := pSt_b (B p) (hB p (by omega))
        omega
theorem pg_atom {B : Nat → Nat} {len sh lo hi D Ds dd : Nat} {g g' gc gr : Nat → Int32 → zz_Mem → Option zz_Mem} (hd : dd ≤ 6) (d0 : 1 ≤ D) (d1 : Ds ≤ D) (hzS : dd < 6 → pZd B len (g 0 (nI (dd + 1))) (g' 0 (nI (dd + 1)))) (hS : dd < 6 → pGr B len sh lo hi false Ds (g 0 (nI (dd + 1))) (g' 0 (nI (dd + 1)))) (hBS : dd < 6 → ∀ p m n n1, pBad B len p m n → f_X12_fails 2 n = some n1 → pFx n1 → g' 0 (nI (dd + 1)) n = some n1) (hg : dd < 6 → ∀ m, g 3 (nI (dd + 1)) m = f_X7_readChoice gc (nI (dd + 1)) m) (hg' : ∀ n, g' 3 (nI dd) n = f_X12_readIf gr (nI dd) n) (hch : dd < 6 → ∀ N p m n μ2 ν2, pLw sh lo hi m n → N ≤ p → pSt2 B len sh lo hi N p m n [] 1 0 0 μ2 ν2 → ∃ μ3 ν3, f_X7_readChoice gc (nI (dd + 1)) μ2 = some μ3 ∧ pRi gr (nI dd) ν2 = some ν3 ∧ pSt2 B len sh lo hi N p m n [false] 0 D 0 μ3 ν3) (hBi : dd < 6 → ∀ p m n n1, pBad B len p m n → f_X12_fails 2 n = some n1 → pFx n1 → pRi gr (nI dd) n = some n1) : pGr B len sh lo hi false D (f_X7_readAtom g (nI dd)) (f_X12_readAtom g' (nI dd)) := by
  intro N p m n hlw ho h1 h2 hN
  have hl := ho.1.1
  have hB : ∀ j, j < len → B j < 256 := fun j hj => (ho.1.2.1 j hj).1
  obtain ⟨k1, k2, k3, k4, k5⟩ := pkE_b (B := B) ho.2.2.1 hB
  have ap : pAp sh N [] m n m n := ⟨h1, h2, fun _ _ => ⟨rfl, rfl⟩, fun i hi => absurd hi (Nat.not_lt_zero _)⟩
  have e11 : n.1 0 11 = 0 := ho.2.2.2.2.2.2.2.2.2.2.2.1
  have e9 : n.1 0 9 = nI (pkK B len p) := ho.2.2.2.2.2.2.2.2.2.2.1
  have t2 := po_n2 ho
  have t40 : m.1 30 4 = 40 ↔ pkK B len p = 37 := po_sign ho (i := 5) (by omega)
  have w15 : f_X7_isWord 15 m = some (pd_b (decide (pkK B len p = 15))) := pc_isW ho (w := 15) (by omega) (by omega)
  have i29 : f_X12_is n 29 = some (pd_b (decide (pkK B len p = 29))) := pr_isO ho (k := 29) (by omega)
  have i37 : f_X12_is n 37 = some (pd_b (decide (pkK B len p = 37))) := pr_isO ho (k := 37) (by omega)
  have i15 : f_X12_is n 15 = some (pd_b (decide (pkK B len p = 15))) := pr_isO ho (k := 15) (by omega)
  have ew : f_X12_wordOf n (n.1 0 9) = some (match pWd sh (pkK B len p) with | some r => nI r | none => -1) := by
    rw [e9]
    unfold f_X12_wordOf
    rcases hlw with ⟨rfl, -, -, -, e⟩ | ⟨rfl, -, -, -, e⟩
    · rw [if_pos e]; exact (pWd_w _ k5 n).1
    · rw [if_neg (by rw [e]; decide)]; exact (pWd_w _ k5 n).2
  have hv := pc_var hlw ho
  unfold f_X7_readAtom f_X12_readAtom
  rw [i29, pq_bndS]
  by_cases c1 : pkK B len p = 29
  · have hval := ho.2.2.2.2.2.2.2.2.2.2.2.2 c1
    have hlt := po_num hB ho.2.2.1 c1
    have hcm : pe_cm sh (nI (pVl B p (pkE B len p - p))) = nI (pVl B p (pkE B len p - p)) := by
      have l3 : (3000 : Int32) = nI 3000 := rfl
      have l1 : (1000 : Int32) = nI 1000 := rfl
      unfold pe_cm
      rw [l3, if_neg (nI_ge (by omega) (by omega)), l1, if_neg (nI_ge (by omega) (by omega))]
    have l3 : (3000 : Int32) = nI 3000 := rfl
    have l1 : (1000 : Int32) = nI 1000 := rfl
    have l0 : (0 : Int32) = nI 0 := rfl
    obtain ⟨μ2, ν2, μ3, ν3, y1, y2, y3, y4, y5⟩ := ps_push (sh := sh) (lo := lo) (hi := hi) (c := nI (pVl B p (pkE B len p - p))) ho h1 h2 hN (by omega) (by rw [l3]; exact nI_ge (by omega) (by omega)) (by rw [l0]; exact nI_le (by omega) (by omega)) (fun z => absurd z (by rw [l1]; exact nI_ge (by omega) (by omega)))
    rw [hcm] at y1
    rw [if_pos (t2.mpr c1), decide_eq_true c1, if_neg (show ¬ pd_b true = 0 by decide), hval.1, hval.2, y1, pq_bndS, y3, pq_bndS, y2, pq_bndS, y4, pq_bndS]
    exact ⟨μ3, ν3, rfl, rfl, ps_less y5 (Nat.le_refl _) d0 (Nat.le_refl _)⟩
  · rw [if_neg (fun z => c1 (t2.mp z)), decide_eq_false c1, if_pos (show pd_b false = 0 from rfl), if_pos e11, ew, pq_bndS, w15, pq_bndS]
    cases hw : pWd sh (pkK B len p) with
    | some r =>
      have hlt := pWd_lt hw
      have hb : sh ≤ r ∧ lo ≤ r ∧ r < hi ∧ pkK B len p ≤ 28 ∧ pkK B len p ≠ 15 := by
        rcases hlw with ⟨rfl, rfl, rfl, -, -⟩ | ⟨rfl, rfl, rfl, -, -⟩
        · obtain ⟨a, b, c⟩ := pWd_0 _ k5 r hlt hw
          exact ⟨by omega, by omega, a, b, c⟩
        · obtain ⟨a, b, c⟩ := pWd_5 _ k5 r hlt hw
          exact ⟨a, a, hlt, b, c⟩
      obtain ⟨b1, b2, b3, b4, b5⟩ := hb
      have l3 : (3000 : Int32) = nI 3000 := rfl
      have l1 : (1000 : Int32) = nI 1000 := rfl
      have l0 : (0 : Int32) = nI 0 := rfl
      have hcm : pe_cm sh (nI (1000 + r)) = nI (1000 + r - sh) := by
        unfold pe_cm
        rw [l3, if_neg (nI_ge (by omega) (by omega)), l1, if_pos (nI_le (by omega) (by omega)), pk_sub (by omega)]
      obtain ⟨μ2, ν2, μ3, ν3, y1, y2, y3, y4, y5⟩ := ps_push (sh := sh) (lo := lo) (hi := hi) (c := nI (1000 + r)) ho h1 h2 hN (by omega) (by rw [l3]; exact nI_ge (by omega) (by omega)) (by rw [l0]; exact nI_le (by omega) (by omega)) (fun _ => by rw [l1, pk_sub (by omega), Nat.add_sub_cancel_left, nI_clamp (by omega)]; exact ⟨b2, b3⟩)
      rw [hcm] at y1
      refine ⟨μ3, ν3, ?_, ?_, ps_less y5 (Nat.le_refl _) d0 (Nat.le_refl _)⟩
      · rw [if_neg (fun z => by have := t40.mp z; omega), decide_eq_false b5, if_pos (show pd_b false = 0 from rfl), hv.1 r hw, y1, pq_bndS, y3, pq_bndS, pq_bndS]
      · show (if nI r = -1 then _ else _) = _
        rw [if_neg (pi_nm1 hlt), pq_bndS]
        show zz_bndR (f_X12_codes (1000 + nI r) n) _ = _
        rw [l1, nI_add, y2, pq_bndS, y4, pq_bndS]
    | none =>
      show ∃ m' n', _ ∧ (if (-1 : Int32) = -1 then _ else _) = _ ∧ _
      rw [if_pos rfl]
      unfold f_X12_readAtom_66
      rw [i37, pq_bndS, i15, pq_bndS]
      by_cases c2 : pkK B len p = 37
      · rw [if_pos (t40.mpr c2), decide_eq_true c2, if_neg (show ¬ pd_b true = 0 by decide), nI_1]
        exact ps_nest (T := []) (C := []) (e := 0) (D := 0) (T' := [false]) (D' := D) hd hN hl (pEc0 m) (pEr0 n) (by simp) ho (pEx_nil lo hi) ap (by omega) (KC := fun m5 => zz_bndR (g 0 (nI (dd + 1)) m5) fun m6 => zz_bndR (f_X7_takeSign 41 m6) fun m7 => some m7) (KR := fun m6 => zz_bndR (g' 0 (nI (dd + 1)) m6) fun m7 => zz_bnd (f_X12_eats 38 m7) fun r8 m9 => if r8 = 0 then (zz_bndR (f_X12_fails 2 m9) fun m10 => some m10) else some m9) (fun hlt μ2 ν2 st => by
            obtain ⟨μ3, ν3, a1, a2, a3⟩ := ps_sub (b := false) (D2 := Ds) (D3 := D) hN hl (hzS hlt) (fun N' p' m' n' ec er o b1 b2 b3 => hS hlt N' p' m' n' (pLw_E hlw ec er) o b1 b2 b3) st (by omega) (by simpa using d1)
            obtain ⟨μ4, ν4, v1, v2, v3⟩ := ps_expect (t := 38) (F := f_X7_takeSign (nI (pSg 6))) hN hl (by omega) (by omega) (by omega) (po_takeSign (by omega)) (fun w p m h => sc_takeSign h (by decide)) a3
            have v1' : f_X7_takeSign 41 μ3 = some μ4 := v1
            have v2' := v2 (fun z => some z)
            exact ⟨μ4, ν4, by show zz_bndR (g 0 (nI (dd + 1)) μ2) _ = _; rw [a1, pq_bndS, v1', pq_bndS], by show zz_bndR (g' 0 (nI (dd + 1)) ν2) _ = _; rw [a2, pq_bndS]; exact v2', ps_less v3 (Nat.zero_le _) (Nat.le_refl _) (Nat.zero_le _)⟩) (fun hlt p' m' n' n1 hb e f => by
            show zz_bndR (g' 0 (nI (dd + 1)) n') _ = _
            rw [hBS hlt p' m' n' n1 hb e f, pq_bndS, fx_eats f, pq_bnd2, if_pos rfl, fx_fails f, pq_bndS])
      · rw [if_neg (fun z => c2 (t40.mp z)), decide_eq_false c2, if_pos (show pd_b false = 0 from rfl)]
        by_cases c3 : pkK B len p = 15
        · rw [decide_eq_true c3, if_neg (show ¬ pd_b true = 0 by decide), if_neg (show ¬ pd_b true = 0 by decide), nI_1, hg', pu_bS]
          exact ps_nest (T := []) (C := []) (e := 0) (D := 0) (T' := [false]) (D' := D) hd hN hl (pEc0 m) (pEr0 n) (by simp) ho (pEx_nil lo hi) ap (by omega) (KC := fun m3 => zz_bndR (g 3 (nI (dd + 1)) m3) fun m4 => some m4) (KR := pRi gr (nI dd)) (fun hlt μ2 ν2 st => by
              obtain ⟨μ3, ν3, a1, a2, a3⟩ := hch hlt N p m n μ2 ν2 hlw hN st
              exact ⟨μ3, ν3, by show zz_bndR (g 3 (nI (dd + 1)) μ2) _ = _; rw [hg hlt, a1, pq_bndS], a2, a3⟩) hBi
        · rw [decide_eq_false c3, if_pos (show pd_b false = 0 from rfl), if_pos (show pd_b false = 0 from rfl), hv.2 hw, pu_bS]
          obtain ⟨μ2, ν2, z1, z2, z3, z4⟩ := ps_fail (T := [false]) (e := 0) (D := D) (k0 := 0) (p := p) (lo := lo) (hi := hi) (w := 2) (pEc0 m) (pEr0 n) (by simp; have := ho.2.2.1; omega) ho ap (by omega)
          have z1' : f_X7_fail 2 m = some μ2 := z1
          have z2' : f_X12_fails 2 n = some ν2 := z2
          exact ⟨μ2, ν2, z1', by rw [z2', pq_bndS], z3⟩
