/-! ===== 99o: laws told ===== -/
def pCl (law : Nat) (r : Int32) (Fs : zz_Mem → Option zz_Mem) (m : zz_Mem) : Option zz_Mem := zz_bndR (f_X7_next m) fun m1 => zz_bndR (f_X7_takeSign (58 : Int32) m1) fun m2 => zz_letM (zz_setI m2 30 9 r) fun m3 => zz_letM (zz_setI m3 23 (4 + 2 * law) (m3.1 23 3)) fun m4 => zz_bndR (Fs m4) fun m5 => zz_letM (zz_setI m5 23 (5 + 2 * law) (m5.1 23 3)) fun m6 => some m6
def pRlw (law : Nat) (Gs : zz_Mem → Option zz_Mem) (m : zz_Mem) : Option zz_Mem := zz_bndR (Gs (zz_setI m 0 15 (nI law))) fun m4 => f_X12_readLaw_49 (nI law) (m.1 4 276) m4
theorem pEx_1 {lo hi D : Nat} {b : Bool} {C : List Int32} (hD : D ≤ 64) (h : pEx lo hi [b] D C) : pe_wf lo hi b C [] ∧ 0 < C.length := by
  have q : pe_wf lo hi b (C ++ []) [] := h b [] [] (by simpa using hD) rfl
  rw [List.append_nil] at q
  refine ⟨q, ?_⟩
  cases C with
  | nil => exact absurd q (by rw [pe_wf]; simp)
  | cons c C => simp
theorem ln_law {B : Nat → Nat} {len t law sh lo hi D : Nat} {b : Bool} {r : Int32} {Fs Gs : zz_Mem → Option zz_Mem} (hk : (law = 0 ∧ sh = 0 ∧ lo = 0 ∧ hi = 5 ∧ b = false ∧ r = 1 ∧ t = 13) ∨ (law = 1 ∧ sh = 5 ∧ lo = 5 ∧ hi = 8 ∧ b = true ∧ r = 0 ∧ t = 14)) (hD : D ≤ 64) (hs : pGr B len sh lo hi b D Fs Gs) (hz : pZd B len Fs Gs) (hG : ∀ m, f_X12_readLaw_18 (nI law) m = pRlw law Gs m) : pLn B len t (pCl law r Fs) (f_X12_readLaw (nI law)) := by
  intro p μ ν H I Fl N l ho ht ⟨g1, g2, g3, ⟨n1, n2, nL0, nL1⟩, gh⟩ hN
  have hlaw : law < 2 := by omega
  have hp9 := ho.1.1
  have hpl := ho.2.2.1
  obtain ⟨μ1, ν1, y1, y2, y3, y4, y5⟩ := pq_next ho (by omega)
  obtain ⟨μ2, ν2, z1, z2, z3, z4, z5, z6⟩ := pq_sign (i := 1) (by omega) y5
  have z1' : f_X7_takeSign 58 μ1 = some μ2 := z1
  have w1 := pNxT y3 z3
  have w2 := pNzT y4 z4
  unfold pCl f_X12_readLaw
  rw [y1, pq_bndS, z1', pq_bndS, pq_letM, pq_letM, y2, pq_bndS]
  have eR := z2 _ (fun z => f_X12_readLaw_18 (nI law) z)
  have e2 : ∀ k, k ≠ 30 → μ2.1 k = μ.1 k := fun k hk => (w1.1 k (by simp <;> omega)).1
  have er2 : ν2.1 4 = ν.1 4 := (w2.1 4 (by simp)).1
  generalize hm4 : zz_setI (zz_setI μ2 30 9 r) 23 (4 + 2 * law) ((zz_setI μ2 30 9 r).1 23 3) = m4
  generalize hn4 : zz_setI ν2 0 15 (nI law) = n4
  have m4k : ∀ k, k ≠ 30 → k ≠ 23 → m4.1 k = μ.1 k := fun k a1 a2 => by rw [← hm4, qx_in a2, qx_in a1, e2 k a1]
  have m4j : ∀ j, j ≠ 4 + 2 * law → m4.1 23 j = μ.1 23 j := fun j a1 => by rw [← hm4, qx_isN a1, qx_in (by decide), e2 23 (by decide)]
  have m4f : m4.1 23 (4 + 2 * law) = nI N := by rw [← hm4, qx_isE, qx_in (by decide), e2 23 (by decide), n1]
  have n44 : n4.1 4 = ν.1 4 := by rw [← hn4, qx_in (by decide), er2]
  have fc4 : pWc μ m4 := by rw [← hm4]; exact pWc_I (pWc_9 (pWc_N (pWc0 μ) w1) _) (by simp) _ _
  have fr4 : pWr ν n4 := by rw [← hn4]; exact pWr_15 (pWr_Z (pWr0 ν) w2) _
  have hQ : pQm B len (p + 1 + 1) m4 n4 := by
    rw [← hm4, ← hn4]
    refine pQm_M z5 ⟨fun j hj => ?_, rfl, rfl⟩ ⟨fun j hj => ?_, rfl⟩
    · rw [qx_in (by decide), qx_isN (by omega)]
    · rw [qx_isN (by omega)]
  have hlw : pLw sh lo hi m4 n4 := by
    have q9 : m4.1 30 9 = r := by rw [← hm4, qx_in (by decide), qx_isE]
    have q15 : n4.1 0 15 = nI law := by rw [← hn4, qx_isE]
    unfold pLw
    rw [q9, q15]
    rcases hk with ⟨rfl, rfl, rfl, rfl, rfl, rfl, rfl⟩ | ⟨rfl, rfl, rfl, rfl, rfl, rfl, rfl⟩
    · exact Or.inl ⟨rfl, rfl, rfl, rfl, rfl⟩
    · exact Or.inr ⟨rfl, rfl, rfl, rfl, rfl⟩
  have c4 : m4.1 23 3 = nI N := by rw [m4j 3 (by omega), n1]
  have d4 : n4.1 4 276 = nI N := by rw [n44, n2]
  have key : ∃ m5 n5, Fs m4 = some m5 ∧ Gs n4 = some n5 ∧ pEc m4 m5 ∧ pEr n4 n5 ∧ ((∃ p1 C, N + C.length ≤ p1 ∧ p + 1 ≤ p1 ∧ pOK B len p1 m5 n5 ∧ pEx lo hi [b] D C ∧ pAp sh N C m4 n4 m5 n5) ∨ (∃ p1, pBad B len p1 m5 n5) ∨ ∃ w p1, pFld B len w p1 m5 n5) := by
    have stop : pZs B len m4 n4 → ∃ m5 n5, Fs m4 = some m5 ∧ Gs n4 = some n5 ∧ pEc m4 m5 ∧ pEr n4 n5 ∧ ((∃ p1 C, N + C.length ≤ p1 ∧ p + 1 ≤ p1 ∧ pOK B len p1 m5 n5 ∧ pEx lo hi [b] D C ∧ pAp sh N C m4 n4 m5 n5) ∨ (∃ p1, pBad B len p1 m5 n5) ∨ ∃ w p1, pFld B len w p1 m5 n5) := fun z => by
      obtain ⟨m5, n5, a1, a2, a3, a4, a5⟩ := hz m4 n4 z
      exact ⟨m5, n5, a1, a2, a4, pEr_Z a5, Or.inr (Or.inr a3.1)⟩
    rcases hQ with ⟨p2, he, o2⟩ | ⟨p2, b2⟩ | f2
    · obtain ⟨m5, n5, a1, a2, a3, a4, a5⟩ := hs N p2 m4 n4 hlw o2 c4 d4 (by omega)
      refine ⟨m5, n5, a1, a2, a3, a4, ?_⟩
      rcases a5 with ⟨p1, C, q0, q1, q2, q3, q4⟩ | ⟨p1, k, q1, q2, q3, q4⟩ | q
      · exact Or.inl ⟨p1, C, by omega, by omega, q2, q3, q4⟩
      · exact Or.inr (Or.inl ⟨p1, q2⟩)
      · exact Or.inr (Or.inr q.1)
    · exact stop ⟨Or.inl ⟨p2, b2⟩, N, by omega, c4⟩
    · exact stop ⟨Or.inr f2, N, by omega, c4⟩
  obtain ⟨m5, n5, a1, a2, a3, a4, a5⟩ := key
  rw [a1, pq_bndS, pq_letM]
  have m5k : ∀ k, k ≠ 30 → k ≠ 23 → k ≠ 24 → m5.1 k = μ.1 k := fun k b1 b2 b3 => by rw [(a3.1 k (by simp <;> omega)).1, m4k k b1 b2]
  have m5j : ∀ j, j ≠ 3 → m5.1 23 j = m4.1 23 j := fun j hj => a3.2.2.2.2.1 j hj
  have n5j : ∀ j, j < 276 → n5.1 4 j = ν.1 4 j := fun j hj => by rw [a4.2.2.2 j hj, n44]
  have fc : pWc μ (zz_setI m5 23 (5 + 2 * law) (m5.1 23 3)) := pWc_I (pWc_E fc4 a3) (by simp) _ _
  have fr : pWr ν n5 := pWr_E fr4 a4
  have eL : f_X12_readLaw_18 (nI law) ν2 = f_X12_readLaw_49 (nI law) (nI N) n5 := by
    rw [hG]
    unfold pRlw
    rw [hn4, a2, pq_bndS, er2, n2]
  have l6 : (6 : Int32) = nI 6 := rfl
  have l8 : (8 : Int32) = nI 8 := rfl
  have l10 : (10 : Int32) = nI 10 := rfl
  have hq : pQm B len (p + 1) m5 n5 := by
    rcases a5 with ⟨p1, C, q0, q1, q2, q3, q4⟩ | q | q
    · exact Or.inl ⟨p1, q1, q2⟩
    · exact Or.inr (Or.inl q)
    · exact Or.inr (Or.inr q)
  by_cases fl : n5.1 0 11 = 0
  · have eF : f_X12_readLaw_49 (nI law) (nI N) n5 = some (zz_setI (zz_setI (zz_setI n5 4 (6 + law) 1) 4 (8 + law) (nI N)) 4 (10 + law) (n5.1 4 276 - nI N)) := by
      unfold f_X12_readLaw_49
      rw [if_pos fl, l6, nI_add, pq_ixE (by omega) (by decide), nI_clamp (by omega), pq_letM, l8, nI_add, pq_ixE (by omega) (by decide), nI_clamp (by omega), pq_letM, l10, nI_add, pq_ixE (by omega) (by decide), nI_clamp (by omega), pq_letM, qx_isN (by omega), qx_isN (by omega)]
    refine ⟨_, _, rfl, eR.trans (eL.trans eF), fc, pWr_I (pWr_I (pWr_I fr _ _) _ _) _ _, pQd_mk (pQm_M hq ⟨fun _ _ => rfl, rfl, rfl⟩ ⟨fun _ _ => rfl, rfl⟩) (fun p2 hp2 o2 => ?_)⟩
    have o7 : m5.1 30 7 = 0 := pOK_7 o2
    rcases a5 with ⟨p1, C, q0, q1, q2, q3, q4⟩ | ⟨p1, q2⟩ | ⟨w, p1, q2⟩
    · obtain ⟨x1, x2⟩ := pEx_1 hD q3
      obtain ⟨u1, u2, u3, u4⟩ := q4
      have hC : N + C.length ≤ 900 := by have := q2.2.2.1; omega
      have ep : p2 = p1 := by
        have s1 : m5.1 30 5 = nI p2 := o2.2.2.2.2.2.2.1
        have s2 : m5.1 30 5 = nI p1 := q2.2.2.2.2.2.2.1
        have s3 := o2.2.2.1
        have s4 := q2.2.2.1
        rw [s1, nI_eq (by omega) (by omega)] at s2
        exact s2
      rw [u2, pk_sub (by omega), Nat.add_sub_cancel_left]
      generalize hA : (zz_setI (zz_setI (zz_setI n5 4 (6 + law) 1) 4 (8 + law) (nI N)) 4 (10 + law) (nI C.length)).1 4 = A
      have A6 : A (6 + law) = 1 := by rw [← hA, qx_isN (by omega), qx_isN (by omega), qx_isE]
      have A8 : A (8 + law) = nI N := by rw [← hA, qx_isN (by omega), qx_isE]
      have A10 : A (10 + law) = nI C.length := by rw [← hA, qx_isE]
      have An : ∀ j, j ≠ 6 + law → j ≠ 8 + law → j ≠ 10 + law → A j = n5.1 4 j := fun j b1 b2 b3 => by rw [← hA, qx_isN b3, qx_isN b2, qx_isN b1]
      have Al : ∀ j, j < 276 → j ≠ 6 + law → j ≠ 8 + law → j ≠ 10 + law → A j = ν.1 4 j := fun j b0 b1 b2 b3 => by rw [An j b1 b2 b3, n5j j b0]
      generalize hM : zz_setI m5 23 (5 + 2 * law) (m5.1 23 3) = M
      have Mk : ∀ k, k ≠ 23 → M.1 k = m5.1 k := fun k b1 => by rw [← hM, qx_in b1]
      have M5 : M.1 23 (5 + 2 * law) = nI (N + C.length) := by rw [← hM, qx_isE, u1]
      have Mj : ∀ j, j ≠ 5 + 2 * law → M.1 23 j = m5.1 23 j := fun j b1 => by rw [← hM, qx_isN b1]
      have Mm : ∀ k, k ≠ 30 → k ≠ 23 → k ≠ 24 → M.1 k = μ.1 k := fun k b1 b2 b3 => by rw [Mk k b2, m5k k b1 b2 b3]
      have hcod : ∀ j, j < N → A (277 + j) = ν.1 4 (277 + j) ∧ M.1 24 j = μ.1 24 j := fun j hj => by
        obtain ⟨s1, s2⟩ := u3 j hj
        rw [An _ (by omega) (by omega) (by omega), s2, n44, Mk 24 (by decide), s1, m4k 24 (by decide) (by decide)]
        exact ⟨rfl, rfl⟩
      have hnew : pDlw M A (N + C.length) law sh lo hi b := Or.inr ⟨A6, N, C, x2, Nat.le_refl _, A8, A10, by rw [Mj _ (by omega), m5j _ (by omega), m4f], M5, x1, fun i hi => by
        obtain ⟨s1, s2⟩ := u4 i hi
        rw [An _ (by omega) (by omega) (by omega), s1, Mk 24 (by decide), s2]
        exact ⟨rfl, rfl⟩⟩
      have hold : ∀ law' sh' lo' hi' b', law' ≠ law → law' < 2 → pDlw μ (ν.1 4) N law' sh' lo' hi' b' → pDlw M A (N + C.length) law' sh' lo' hi' b' := fun law' sh' lo' hi' b' h1 h2 h => pDlw_C h (by omega) (by rw [Mj _ (by omega), m5j _ (by omega), m4j _ (by omega)]) (by rw [Mj _ (by omega), m5j _ (by omega), m4j _ (by omega)]) (Al _ (by omega) (by omega) (by omega) (by omega)) (Al _ (by omega) (by omega) (by omega) (by omega)) (Al _ (by omega) (by omega) (by omega) (by omega)) hcod
      have hg4 : pG4 M A (N + C.length) := by
        refine ⟨by rw [Mj _ (by omega), u1], by rw [An _ (by omega) (by omega) (by omega), u2], ?_, ?_⟩
        · rcases hk with ⟨rfl, rfl, rfl, rfl, rfl, rfl, rfl⟩ | ⟨rfl, rfl, rfl, rfl, rfl, rfl, rfl⟩
          · exact hnew
          · exact hold 0 _ _ _ _ (by omega) (by omega) nL0
        · rcases hk with ⟨rfl, rfl, rfl, rfl, rfl, rfl, rfl⟩ | ⟨rfl, rfl, rfl, rfl, rfl, rfl, rfl⟩
          · exact hold 1 _ _ _ _ (by omega) (by omega) nL1
          · exact hnew
      refine ⟨H, I, Fl, N + C.length, ⟨pG1_C g1 (by rw [Mm 16 (by decide) (by decide) (by decide)]) (Mm 17 (by decide) (by decide) (by decide)) (fun j hj => Al j (by omega) (by omega) (by omega) (by omega)), pG2_C g2 (by rw [Mm 16 (by decide) (by decide) (by decide)]) (Mm 18 (by decide) (by decide) (by decide)) (Mm 19 (by decide) (by decide) (by decide)) (Mm 20 (by decide) (by decide) (by decide)) (Mm 21 (by decide) (by decide) (by decide)) (Mm 28 (by decide) (by decide) (by decide)) (fun j hj => Al j (by omega) (by omega) (by omega) (by omega)), pG3_C g3 (by rw [Mm 16 (by decide) (by decide) (by decide)]) (Mm 22 (by decide) (by decide) (by decide)) (Mm 29 (by decide) (by decide) (by decide)) (fun j hj => Al j (by omega) (by omega) (by omega) (by omega)), hg4, ?_⟩, by omega⟩
      exact pDh_C gh (by rw [Mm 16 (by decide) (by decide) (by decide)]) (by rw [Mm 16 (by decide) (by decide) (by decide)]) (by rw [Mm 16 (by decide) (by decide) (by decide)]) (by rw [Mm 27 (by decide) (by decide) (by decide)]) (Al 0 (by omega) (by omega) (by omega) (by omega)) (Al 1 (by omega) (by omega) (by omega) (by omega)) (Al 2 (by omega) (by omega) (by omega) (by omega)) (Al 74 (by omega) (by omega) (by omega) (by omega)) (Al 85 (by omega) (by omega) (by omega) (by omega))
    · exact absurd o7 (pSto_n q2.1)
    · exact absurd o7 (pSto_n q2.1)
  · have eF : f_X12_readLaw_49 (nI law) (nI N) n5 = some n5 := by
      unfold f_X12_readLaw_49
      rw [if_neg fl]
    exact ⟨_, _, rfl, eR.trans (eL.trans eF), fc, fr, pQd_mk (pQm_M hq ⟨fun _ _ => rfl, rfl, rfl⟩ (pEqr0 _)) (fun p2 hp2 o2 => absurd (pOK_11 o2) fl)⟩
theorem ln_rates {B : Nat → Nat} {len : Nat} : pLn B len 13 f_X7_readRates (f_X12_readLaw 0) := ln_law (law := 0) (sh := 0) (lo := 0) (hi := 5) (b := false) (r := 1) (D := 33) (Fs := F_X7_readSum 0) (Gs := F_X12_readSum 0) (Or.inl ⟨rfl, rfl, rfl, rfl, rfl, rfl, rfl⟩) (by omega) pl_sum pl_zsum (fun m => by
  unfold f_X12_readLaw_18 pRlw
  rw [pq_letI, pq_letM, if_pos (show nI 0 = 0 from rfl)])
theorem ln_opens {B : Nat → Nat} {len : Nat} : pLn B len 14 f_X7_readOpens (f_X12_readLaw 1) := ln_law (law := 1) (sh := 5) (lo := 5) (hi := 8) (b := true) (r := 0) (D := 36) (Fs := F_X7_readTruth 0) (Gs := F_X12_readTruth 0) (Or.inr ⟨rfl, rfl, rfl, rfl, rfl, rfl, rfl⟩) (by omega) pl_truth pl_ztruth (fun m => by
  unfold f_X12_readLaw_18 pRlw
  rw [pq_letI, pq_letM, if_neg (show ¬ nI 1 = 0 by decide)])
