/-! ===== 99n: inputs ===== -/
def pMi (I : Nat) (μ0 μ : zz_Mem) : Prop := pWc μ0 μ ∧ (∀ k, k ≠ 18 → k ≠ 19 → k ≠ 20 → k ≠ 21 → k ≠ 28 → k ≠ 30 → μ.1 k = μ0.1 k) ∧ ∀ k i, k ≠ 30 → i ≠ I → μ.1 k i = μ0.1 k i
theorem pMi0 (I : Nat) (μ : zz_Mem) : pMi I μ μ := ⟨pWc0 μ, fun _ _ _ _ _ _ _ => rfl, fun _ _ _ _ => rfl⟩
theorem pMi_N {I : Nat} {μ0 μ μ' : zz_Mem} (h : pMi I μ0 μ) (g : pNx μ μ') : pMi I μ0 μ' := by
  have e : ∀ k, k ≠ 30 → μ'.1 k = μ.1 k := fun k hk => (g.1 k (by simp <;> omega)).1
  exact ⟨pWc_N h.1 g, fun k a b c d f j => by rw [e k j]; exact h.2.1 k a b c d f j, fun k i hk hi => by rw [e k hk]; exact h.2.2 k i hk hi⟩
theorem pMi_I {I : Nat} {μ0 μ : zz_Mem} (h : pMi I μ0 μ) {k : Nat} (hk : k = 18 ∨ k = 19 ∨ k = 20 ∨ k = 21 ∨ k = 28) (v : Int32) : pMi I μ0 (zz_setI μ k I v) := by
  refine ⟨pWc_I h.1 (by rcases hk with rfl | rfl | rfl | rfl | rfl <;> simp) _ _, fun j a b c d f g => ?_, fun j i hj hi => ?_⟩
  · rw [qx_in (by omega)]; exact h.2.1 j a b c d f g
  · by_cases c : j = k
    · subst c; rw [qx_isN hi]; exact h.2.2 j i hj hi
    · rw [qx_in c]; exact h.2.2 j i hj hi
theorem nI_leN {a b : Nat} (h : nI a ≤ nI b) (ha : a < 2147483648) (hb : b < 2147483648) : a ≤ b := by
  rw [Int32.le_iff_toInt_le, nI_toInt ha, nI_toInt hb] at h
  omega
theorem ln_in3 {B : Nat → Nat} {len e l H I Fl N kd : Nat} {μ0 μ ν0 ν : zz_Mem} {v3 v4 s0 : Int32} (hd : pDx μ0 (ν0.1 4) H I Fl N l) (hI : I < 8) (hNe : N ≤ e) (hM : pMi I μ0 μ) (hR : pWr ν0 ν) (h4 : ν.1 4 = ν0.1 4) (hQ : pQm B len e μ ν) (h18 : μ.1 18 I = nI kd) (hkd : kd ≤ 2) (hval : μ.1 30 7 = 0 → ∃ st en ev, v3 = nI st ∧ v4 = nI en ∧ s0 = nI ev ∧ st ≤ 998 ∧ en ≤ 999 ∧ ev ≤ 999 ∧ st < en ∧ (kd = 2 → 30 ≤ ev) ∧ (kd ≠ 2 → ev = 0) ∧ (kd ≠ 1 → st = 0) ∧ μ.1 19 I = nI st ∧ μ.1 20 I = nI en ∧ μ.1 21 I = nI ev) : ∃ μ' ν', f_X7_readInput_126 (nI I) μ = some μ' ∧ f_X12_readInput_107 (nI I) (nI kd) v3 v4 s0 ν = some ν' ∧ pWc μ0 μ' ∧ pWr ν0 ν' ∧ pQd B len e l μ' ν' := by
  obtain ⟨g1, ⟨i1, i2, i3, i4⟩, g3, g4, gh⟩ := hd
  obtain ⟨μ2, v, μ3, v', ν3, y1, y2, y3, y4, y5, y6, y7⟩ := pq_named (w := 8) (c := 0) (d := 999) (by omega) (by omega) hQ
  have y3' : f_X12_named 6 0 999 ν = some (v', ν3) := y3
  have l24 : (24 : Int32) = nI 24 := rfl
  have l32 : (32 : Int32) = nI 32 := rfl
  have l40 : (40 : Int32) = nI 40 := rfl
  have l48 : (48 : Int32) = nI 48 := rfl
  have l66 : (66 : Int32) = nI 66 := rfl
  have er : ν3.1 4 = ν0.1 4 := ((y5.1 4 (by simp)).1).trans h4
  have e3 : ∀ k, k ≠ 30 → μ3.1 k = μ.1 k := fun k hk => (y4.1 k (by simp <;> omega)).1
  unfold f_X7_readInput_126 f_X12_readInput_107
  rw [y1, pq_bndS, y2, pq_bnd2, pq_ixE (by omega) (by decide), nI_clamp (by omega), pq_letM, nI_1, pq_letM, y3', pq_bnd2]
  have hm := pMi_I (k := 28) (pMi_N hM y4) (by omega) v
  have fc : pWc μ0 (zz_setI (zz_setI μ3 28 I v) 16 5 (nI (I + 1))) := pWc_I hm.1 (by simp) _ _
  have fr : pWr ν0 ν3 := pWr_Z hR y5
  by_cases fl : ν3.1 0 11 = 0
  · rw [if_pos fl, l24, nI_add, pq_ixE (by omega) (by decide), nI_clamp (by omega), pq_letM, l32, nI_add, pq_ixE (by omega) (by decide), nI_clamp (by omega), pq_letM, l40, nI_add, pq_ixE (by omega) (by decide), nI_clamp (by omega), pq_letM, l48, nI_add, pq_ixE (by omega) (by decide), nI_clamp (by omega), pq_letM, l66, nI_add, pq_ixE (by omega) (by decide), nI_clamp (by omega), pq_letM]
    rw [qx_isN (show 4 ≠ 66 + I by omega), qx_isN (show 4 ≠ 48 + I by omega), qx_isN (show 4 ≠ 40 + I by omega), qx_isN (show 4 ≠ 32 + I by omega), qx_isN (show 4 ≠ 24 + I by omega), er, i2, nI_1, pq_letM]
    refine ⟨_, _, rfl, rfl, fc, pWr_I (pWr_I (pWr_I (pWr_I (pWr_I (pWr_I fr _ _) _ _) _ _) _ _) _ _) _ _, pQd_mk (pQm_w (pQm_M y6 ⟨fun _ _ => rfl, rfl, rfl⟩ ⟨fun _ _ => rfl, rfl⟩) (by omega)) (fun p2 hp2 o2 => ?_)⟩
    obtain ⟨u7, ra, x1, x2, x3, -⟩ := y7 (show μ3.1 30 7 = 0 from pOK_7 o2)
    obtain ⟨st, en, ev, w1, w2, w3, w4, w5, w6, w7, w8, w9, w10, w11, w12, w13⟩ := hval u7
    have hA : ∀ j, j ≠ 4 → j ≠ 66 + I → j ≠ 48 + I → j ≠ 40 + I → j ≠ 32 + I → j ≠ 24 + I → (zz_setI (zz_setI (zz_setI (zz_setI (zz_setI (zz_setI ν3 4 (24 + I) (nI kd)) 4 (32 + I) v3) 4 (40 + I) v4) 4 (48 + I) s0) 4 (66 + I) v') 4 4 (nI (I + 1))).1 4 j = ν0.1 4 j := fun j j1 j2 j3 j4 j5 j6 => by rw [qx_isN j1, qx_isN j2, qx_isN j3, qx_isN j4, qx_isN j5, qx_isN j6, er]
    have hMM : ∀ k, k ≠ 16 → k ≠ 18 → k ≠ 19 → k ≠ 20 → k ≠ 21 → k ≠ 28 → k ≠ 30 → (zz_setI (zz_setI μ3 28 I v) 16 5 (nI (I + 1))).1 k = μ0.1 k := fun k k0 k1 k2 k3 k4 k5 k6 => by rw [qx_in k0]; exact hm.2.1 k k1 k2 k3 k4 k5 k6
    have hM16 : ∀ j, j ≠ 5 → (zz_setI (zz_setI μ3 28 I v) 16 5 (nI (I + 1))).1 16 j = μ0.1 16 j := fun j j1 => by rw [qx_isN j1, hm.2.1 16 (by decide) (by decide) (by decide) (by decide) (by decide) (by decide)]
    have hMi : ∀ k i, k ≠ 16 → k ≠ 30 → i ≠ I → (zz_setI (zz_setI μ3 28 I v) 16 5 (nI (I + 1))).1 k i = μ0.1 k i := fun k i k1 k2 hi => by rw [qx_in k1]; exact hm.2.2 k i k2 hi
    have hMI : ∀ k, k ≠ 16 → k ≠ 28 → k ≠ 30 → (zz_setI (zz_setI μ3 28 I v) 16 5 (nI (I + 1))).1 k I = μ.1 k I := fun k k1 k2 k3 => by rw [qx_in k1, qx_in k2, e3 k k3]
    refine ⟨H, I + 1, Fl, N, ⟨pG1_C g1 (hM16 3 (by decide)) (hMM 17 (by decide) (by decide) (by decide) (by decide) (by decide) (by decide) (by decide)) (fun j hj => hA j (by omega) (by omega) (by omega) (by omega) (by omega) (by omega)), ⟨qx_isE, qx_isE, by omega, fun i hi => ?_⟩, pG3_C g3 (hM16 10 (by decide)) (hMM 22 (by decide) (by decide) (by decide) (by decide) (by decide) (by decide) (by decide)) (hMM 29 (by decide) (by decide) (by decide) (by decide) (by decide) (by decide) (by decide)) (fun j hj => hA j (by omega) (by omega) (by omega) (by omega) (by omega) (by omega)), pG4_C g4 (hMM 23 (by decide) (by decide) (by decide) (by decide) (by decide) (by decide) (by decide)) (hMM 24 (by decide) (by decide) (by decide) (by decide) (by decide) (by decide) (by decide)) (fun j hj => hA j (by omega) (by omega) (by omega) (by omega) (by omega) (by omega)), pDh_C gh (hM16 0 (by decide)) (hM16 1 (by decide)) (hM16 2 (by decide)) (by rw [hMM 27 (by decide) (by decide) (by decide) (by decide) (by decide) (by decide) (by decide)]) (hA 0 (by omega) (by omega) (by omega) (by omega) (by omega) (by omega)) (hA 1 (by omega) (by omega) (by omega) (by omega) (by omega) (by omega)) (hA 2 (by omega) (by omega) (by omega) (by omega) (by omega) (by omega)) (hA 74 (by omega) (by omega) (by omega) (by omega) (by omega) (by omega)) (hA 85 (by omega) (by omega) (by omega) (by omega) (by omega) (by omega))⟩, by omega⟩
    by_cases ck : i = I
    · subst ck
      refine ⟨kd, st, en, ev, ra, hkd, w4, w5, w6, by omega, w7, w8, w9, w10, ⟨?_, ?_, ?_, ?_, ?_⟩, (hMI 18 (by decide) (by decide) (by decide)).trans h18, (hMI 19 (by decide) (by decide) (by decide)).trans w11, (hMI 20 (by decide) (by decide) (by decide)).trans w12, (hMI 21 (by decide) (by decide) (by decide)).trans w13, ?_⟩
      · rw [qx_isN (by omega), qx_isN (by omega), qx_isN (by omega), qx_isN (by omega), qx_isN (by omega), qx_isE]
      · rw [qx_isN (by omega), qx_isN (by omega), qx_isN (by omega), qx_isN (by omega), qx_isE, w1]
      · rw [qx_isN (by omega), qx_isN (by omega), qx_isN (by omega), qx_isE, w2]
      · rw [qx_isN (by omega), qx_isN (by omega), qx_isE, w3]
      · rw [qx_isN (by omega), qx_isE, x3]
      · rw [qx_in (by decide), qx_isE, x2]
    · exact pDi_C (i4 i (by omega)) (hMi 18 i (by decide) (by decide) ck) (hMi 19 i (by decide) (by decide) ck) (hMi 20 i (by decide) (by decide) ck) (hMi 21 i (by decide) (by decide) ck) (hMi 28 i (by decide) (by decide) ck) (hA _ (by omega) (by omega) (by omega) (by omega) (by omega) (by omega)) (hA _ (by omega) (by omega) (by omega) (by omega) (by omega) (by omega)) (hA _ (by omega) (by omega) (by omega) (by omega) (by omega) (by omega)) (hA _ (by omega) (by omega) (by omega) (by omega) (by omega) (by omega)) (hA _ (by omega) (by omega) (by omega) (by omega) (by omega) (by omega))
  · rw [if_neg fl]
    exact ⟨_, _, rfl, rfl, fc, fr, pQd_mk (pQm_w (pQm_M y6 ⟨fun _ _ => rfl, rfl, rfl⟩ (pEqr0 _)) (by omega)) (fun p2 hp2 o2 => absurd (pOK_11 o2) fl)⟩
theorem ln_in2 {B : Nat → Nat} {len e l H I Fl N kd : Nat} {μ0 μ ν0 ν : zz_Mem} {s s' : Int32} (hd : pDx μ0 (ν0.1 4) H I Fl N l) (hI : I < 8) (hNe : N ≤ e) (hM : pMi I μ0 μ) (hR : pWr ν0 ν) (h4 : ν.1 4 = ν0.1 4) (hQ : pQm B len e μ ν) (h18 : μ.1 18 I = nI kd) (hkd : kd ≤ 2) (hval : μ.1 30 7 = 0 → ∃ st, s = nI st ∧ s' = nI st ∧ st ≤ 998 ∧ (kd ≠ 1 → st = 0)) : ∃ μ' ν', f_X7_readInput_59 (nI kd) (nI I) s (nI I) μ = some μ' ∧ f_X12_readInput_74 (nI I) (nI kd) s' ν = some ν' ∧ pWc μ0 μ' ∧ pWr ν0 ν' ∧ pQd B len e l μ' ν' := by
  have l2 : (2 : Int32) = nI 2 := rfl
  have l999 : (999 : Int32) = nI 999 := rfl
  have l30 : (30 : Int32) = nI 30 := rfl
  unfold f_X7_readInput_59 f_X12_readInput_74
  have Q1 : pQm B len e (zz_setI μ 19 I s) ν := pQm_M hQ ⟨fun _ _ => rfl, rfl, rfl⟩ (pEqr0 _)
  obtain ⟨v, m3, v', ν3, z1, z2, z3, z4, z5, z6⟩ := pq_number (c := s + 1) (d := 999) (c' := s' + 1) (d' := 999) Q1 (fun z => by
    obtain ⟨st, q1, q2, -⟩ := hval z
    rw [q1, q2]; exact ⟨rfl, rfl⟩)
  rw [pq_ixE (by omega) (by decide), nI_clamp (by omega), pq_letM, pq_ixE (by omega) (by decide), qx_isE, z1, pq_bnd2, pq_ixE (by omega) (by decide), pq_letM, pq_ixE (by omega) (by decide), pq_letM, z2, pq_bnd2]
  have hM5 : pMi I μ0 (zz_setI (zz_setI m3 20 I v) 21 I 0) := pMi_I (pMi_I (pMi_N (pMi_I hM (by omega) s) z3) (by omega) v) (by omega) 0
  have h4' : ν3.1 4 = ν0.1 4 := ((z4.1 4 (by simp)).1).trans h4
  have hR' : pWr ν0 ν3 := pWr_Z hR z4
  have Q5 : pQm B len (e + 1) (zz_setI (zz_setI m3 20 I v) 21 I 0) ν3 := pQm_M z5 ⟨fun _ _ => rfl, rfl, rfl⟩ (pEqr0 _)
  have e3 : ∀ k, k ≠ 30 → m3.1 k = (zz_setI μ 19 I s).1 k := fun k hk => (z3.1 k (by simp <;> omega)).1
  have m18 : m3.1 18 I = nI kd := by rw [e3 18 (by decide), qx_in (by decide)]; exact h18
  have m19 : m3.1 19 I = s := by rw [e3 19 (by decide), qx_isE]
  by_cases k2 : kd = 2
  · obtain ⟨m6, r7, m8, r3, ν4, y1, y2, y3, y4, y5, y6, y7⟩ := pq_named (w := 7) (c := 30) (d := 999) (by omega) (by omega) Q5
    have y3' : f_X12_named 9 30 999 ν3 = some (r3, ν4) := y3
    rw [if_pos (show nI kd = 2 by rw [k2]; rfl), if_pos (show nI kd = 2 by rw [k2]; rfl), y1, pq_bndS, y2, pq_bnd2, pq_ixE (by omega) (by decide), pq_letM, y3', pq_bnd2]
    have e8 : ∀ k, k ≠ 30 → m8.1 k = (zz_setI (zz_setI m3 20 I v) 21 I 0).1 k := fun k hk => (y4.1 k (by simp <;> omega)).1
    obtain ⟨μ', ν', q1, q2, q3, q4, q5⟩ := ln_in3 (B := B) (len := len) (e := e) (μ := zz_setI m8 21 I r7) (ν := ν4) (v3 := s') (v4 := v') (s0 := r3) hd hI hNe (pMi_I (pMi_N hM5 y4) (by omega) r7) (pWr_Z hR' y5) (((y5.1 4 (by simp)).1).trans h4') (pQm_w (pQm_M y6 ⟨fun _ _ => rfl, rfl, rfl⟩ (pEqr0 _)) (by omega)) (by rw [qx_in (by decide), e8 18 (by decide), qx_in (by decide), qx_in (by decide)]; exact m18) hkd (fun z => by
      obtain ⟨u1, ev, a1, a2, a3, a4, a5⟩ := y7 (show m8.1 30 7 = 0 from z)
      obtain ⟨u2, en, b1, b2, b3, b4, b5⟩ := z6 (show m3.1 30 7 = 0 from u1)
      obtain ⟨st, c1, c2, c3, c4⟩ := hval (show μ.1 30 7 = 0 from u2)
      rw [c1, nI_1] at b4
      rw [l30] at a4
      have q1 := nI_leN b4 (by omega) (by omega)
      have q2 := nI_leN a4 (by omega) (by omega)
      refine ⟨st, en, ev, c2, b3, a3, c3, by omega, by omega, by omega, fun _ => q2, fun z => absurd k2 z, c4, ?_, ?_, ?_⟩
      · rw [qx_in (by decide), e8 19 (by decide), qx_in (by decide), qx_in (by decide), m19, c1]
      · rw [qx_in (by decide), e8 20 (by decide), qx_in (by decide), qx_isE, b2]
      · rw [qx_isE, a2])
    exact ⟨μ', ν', q1, q2, q3, q4, q5⟩
  · rw [if_neg (show ¬ nI kd = 2 by rw [l2, nI_eq (by omega) (by omega)]; exact k2), if_neg (show ¬ nI kd = 2 by rw [l2, nI_eq (by omega) (by omega)]; exact k2)]
    exact ln_in3 (B := B) (len := len) (e := e) (μ := zz_setI (zz_setI m3 20 I v) 21 I 0) (ν := ν3) (v3 := s') (v4 := v') (s0 := 0) hd hI hNe hM5 hR' h4' (pQm_w Q5 (by omega)) (by rw [qx_in (by decide), qx_in (by decide)]; exact m18) hkd (fun z => by
      obtain ⟨u2, en, b1, b2, b3, b4, b5⟩ := z6 (show m3.1 30 7 = 0 from z)
      obtain ⟨st, c1, c2, c3, c4⟩ := hval (show μ.1 30 7 = 0 from u2)
      rw [c1, nI_1] at b4
      have q1 := nI_leN b4 (by omega) (by omega)
      refine ⟨st, en, 0, c2, b3, rfl, c3, by omega, by omega, by omega, fun z => absurd z k2, fun _ => rfl, c4, ?_, ?_, ?_⟩
      · rw [qx_in (by decide), qx_in (by decide), m19, c1]
      · rw [qx_in (by decide), qx_isE, b2]
      · rw [qx_isE]; rfl)
theorem ln_input {B : Nat → Nat} {len kd t : Nat} (hk : (kd = 0 ∧ t = 5) ∨ (kd = 1 ∧ t = 7) ∨ (kd = 2 ∧ t = 8)) : pLn B len t (f_X7_readInput (nI kd)) f_X12_readInput := by
  intro p μ ν H I Fl N l ho ht hd hN
  obtain ⟨i1, i2, i3, i4⟩ := hd.2.1
  have l8 : (8 : Int32) = nI 8 := rfl
  have l1 : (1 : Int32) = nI 1 := rfl
  have l5 : (5 : Int32) = nI 5 := rfl
  have l7 : (7 : Int32) = nI 7 := rfl
  have l998 : (998 : Int32) = nI 998 := rfl
  have e9 : ν.1 0 9 = nI t := by rw [← ht]; exact ho.2.2.2.2.2.2.2.2.2.2.1
  unfold f_X7_readInput f_X12_readInput
  rw [pq_letI, pq_letI, i1, i2]
  by_cases c : I = 8
  · subst c
    obtain ⟨μ2, ν2, y1, y2, y3, y4, y5⟩ := pj_failO ho (w := 4) (by omega)
    have y1' : f_X7_fail 4 μ = some μ2 := y1
    have y2' : f_X12_fails 4 ν = some ν2 := y2
    unfold f_X12_readInput_18
    rw [if_neg (show ¬ nI 8 < 8 by decide), y1', pq_bndS, if_pos (show nI 8 = 8 from rfl), y2', pq_bndS, if_neg (pFld_x y5)]
    exact ⟨μ2, ν2, rfl, rfl, pWc_N (pWc0 μ) y3, pWr_Z (pWr0 ν) y4, Or.inr (Or.inr ⟨4, p, y5⟩)⟩
  · have hI : I < 8 := by omega
    obtain ⟨μ2, ν2, y1, y2, y3, y4, y5⟩ := pq_next ho (by omega)
    have eR : f_X12_readInput_18 (nI I) ν = f_X12_readInput_52 (nI I) (nI kd) ν := by
      unfold f_X12_readInput_18
      rw [if_pos (pOK_11 ho), e9]
      rcases hk with ⟨rfl, rfl⟩ | ⟨rfl, rfl⟩ | ⟨rfl, rfl⟩
      · rw [if_pos (show nI 5 = 5 from rfl)]; rfl
      · rw [if_neg (show ¬ nI 7 = 5 by decide), if_pos (show nI 7 = 7 from rfl)]; rfl
      · rw [if_neg (show ¬ nI 8 = 5 by decide), if_neg (show ¬ nI 8 = 7 by decide)]; rfl
    rw [if_pos (show nI I < 8 by rw [l8]; exact nI_lt (by omega) (by omega)), y1, pq_bndS, pq_ixE (by omega) (by decide), nI_clamp (by omega), pq_letM, if_neg (show ¬ nI I = 8 by rw [l8, nI_eq (by omega) (by omega)]; exact c), eR]
    unfold f_X12_readInput_52
    rw [y2, pq_bndS]
    have hM : pMi I μ (zz_setI μ2 18 I (nI kd)) := pMi_I (pMi_N (pMi0 I μ) y3) (by omega) _
    have hR := pWr_Z (pWr0 ν) y4
    have h4 : ν2.1 4 = ν.1 4 := (y4.1 4 (by simp)).1
    have Q : pQm B len (p + 1) (zz_setI μ2 18 I (nI kd)) ν2 := pQm_M y5 ⟨fun _ _ => rfl, rfl, rfl⟩ (pEqr0 _)
    by_cases k1 : kd = 1
    · rw [if_pos (show nI kd = 1 by rw [k1]; rfl), if_pos (show nI kd = 1 by rw [k1]; rfl)]
      obtain ⟨v, m3, v', ν3, z1, z2, z3, z4, z5, z6⟩ := pq_number (c := 0) (d := 998) (c' := 0) (d' := 998) Q (fun _ => ⟨rfl, rfl⟩)
      rw [z1, pq_bnd2, z2, pq_bnd2]
      exact ln_in2 (B := B) (len := len) (e := p + 1) (μ := m3) (ν := ν3) (s := v) (s' := v') hd hI (by omega) (pMi_N hM z3) (pWr_Z hR z4) (((z4.1 4 (by simp)).1).trans h4) (pQm_w z5 (by omega)) (by rw [(z3.1 18 (by simp)).1, qx_isE]) (by omega) (fun z => by
        obtain ⟨-, st, a1, a2, a3, a4, a5⟩ := z6 z
        rw [l998] at a5
        exact ⟨st, a2, a3, nI_leN a5 (by omega) (by omega), fun q => absurd k1 q⟩)
    · rw [if_neg (show ¬ nI kd = 1 by rw [l1, nI_eq (by omega) (by omega)]; exact k1), if_neg (show ¬ nI kd = 1 by rw [l1, nI_eq (by omega) (by omega)]; exact k1)]
      exact ln_in2 (B := B) (len := len) (e := p + 1) (μ := zz_setI μ2 18 I (nI kd)) (ν := ν2) (s := 0) (s' := 0) hd hI (by omega) hM hR h4 Q qx_isE (by omega) (fun _ => ⟨0, rfl, rfl, by omega, fun _ => rfl⟩)
