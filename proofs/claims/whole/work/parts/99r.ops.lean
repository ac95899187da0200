/-! ===== 99r: desk ===== -/
theorem rd_core {μ ν : zz_Mem} {len : Nat} (hlen : len ≤ 900) (hb : ∀ j, j < len → ∃ b, b < 256 ∧ ν.1 3 j = nI b ∧ μ.1 1 j &&& 255 = nI b) : ∃ μ' ν', f_X7_read (nI len) (zz_setI μ 0 1 0) = some μ' ∧ (zz_bndR (f_X12_plain 4 1177 (zz_setI (zz_setI (zz_setI (zz_setI ν 0 8 (nI len)) 0 5 0) 0 7 0) 0 11 0)) fun m7 => zz_bndR (f_X12_next m7) fun m8 => zz_bnd (f_X12_eats 0 m8) fun r9 m10 => if r9 = 0 then (zz_bndR (f_X12_fails 2 m10) fun m11 => f_X12_desk_66 m11) else f_X12_desk_66 m10) = f_X12_desk_139 ν' ∧ (∀ k, k ≠ 0 → (k < 16 ∨ 30 < k) → μ'.1 k = μ.1 k) ∧ μ'.2.1 = μ.2.1 ∧ μ'.2.2 32 = μ.2.2 32 ∧ μ'.2.2 30 1 = some 1 ∧ μ'.1 0 1 = 0 ∧ μ'.1 0 18 = μ.1 0 18 ∧ (∀ k, k ≠ 0 → k ≠ 4 → ν'.1 k = ν.1 k) ∧ ν'.2 = ν.2 ∧ ν'.1 0 5 = 0 ∧ ((μ'.1 30 7 = 0 ∧ μ'.1 30 8 = -1 ∧ ν'.1 0 11 = 0 ∧ ∃ H I F N l, pDx μ' (ν'.1 4) H I F N l ∧ N ≤ 900 ∧ l ≤ 901) ∨ (∃ w p, (0 < w ∧ w < 5) ∧ μ'.1 30 7 = nI w ∧ μ'.1 30 8 = nI p ∧ ν'.1 0 11 = nI w ∧ ν'.1 0 12 = nI p)) := by
  have hfu : zz_fuel = 5000 := rfl
  have l900 : (900 : Int32) = nI 900 := rfl
  have emin : f_J9_min_7cf53 (nI len) 900 = some (nI len) := by
    unfold f_J9_min_7cf53
    rw [l900, if_neg (nI_nlt (by omega) (by omega))]
  have emax : f_J9_max_7cf53 0 (nI len) = some (nI len) := by
    have l0 : (0 : Int32) = nI 0 := rfl
    unfold f_J9_max_7cf53
    by_cases c : len = 0
    · subst c; rfl
    · rw [l0, if_pos (nI_lt (by omega) (by omega))]
  generalize hn6 : zz_setI (zz_setI (zz_setI (zz_setI ν 0 8 (nI len)) 0 5 0) 0 7 0) 0 11 0 = n6
  obtain ⟨n7, p1, p2, p3, p4, -⟩ := pr_plain (a0 := 4) (na0 := 1177) (by omega) (by omega) n6
  unfold f_X7_read
  rw [pq_letM, emin, pq_bndS, emax, pq_bndS, pq_letM, pq_letM, pq_letM, pq_letM]
  generalize hm7 : zz_setI (zz_setI (zz_setI (zz_setI (zz_setR (zz_setI μ 0 1 0) 30 1 (some 1)) 30 2 (nI len)) 30 3 0) 30 7 0) 30 8 (-1) = m7
  obtain ⟨m8, c1, c2, c3, c4, c5⟩ := pc_clear m7
  rw [c1, pq_bndS, p1, pq_bndS]
  have m7k : ∀ k, k ≠ 0 → k ≠ 30 → m7.1 k = μ.1 k := fun k k0 k1 => by
    rw [← hm7, qx_in k1, qx_in k1, qx_in k1, qx_in k1]
    show (zz_setI μ 0 1 0).1 k = _
    rw [qx_in k0]
  have m70 : m7.1 0 = (zz_setI μ 0 1 0).1 0 := by
    rw [← hm7, qx_in (by decide), qx_in (by decide), qx_in (by decide), qx_in (by decide)]
    rfl
  have m72 : m7.1 30 2 = nI len := by rw [← hm7, qx_isN (by decide), qx_isN (by decide), qx_isN (by decide), qx_isE]
  have m73 : m7.1 30 3 = nI 0 := by rw [← hm7, qx_isN (by decide), qx_isN (by decide), qx_isE]; rfl
  have m77 : m7.1 30 7 = 0 := by rw [← hm7, qx_isN (by decide), qx_isE]
  have m78 : m7.1 30 8 = -1 := by rw [← hm7, qx_isE]
  have m7a : m7.2.1 = μ.2.1 := by rw [← hm7]; rfl
  have m7b : m7.2.2 30 1 = some 1 := by rw [← hm7]; rfl
  have m7c : m7.2.2 32 = μ.2.2 32 := by rw [← hm7]; rfl
  have n60 : n6.1 0 8 = nI len ∧ n6.1 0 5 = 0 ∧ n6.1 0 7 = nI 0 ∧ n6.1 0 11 = 0 := by
    rw [← hn6]
    refine ⟨?_, ?_, ?_, ?_⟩
    · rw [qx_isN (by decide), qx_isN (by decide), qx_isN (by decide), qx_isE]
    · rw [qx_isN (by decide), qx_isN (by decide), qx_isE]
    · rw [qx_isN (by decide), qx_isE]; rfl
    · rw [qx_isE]
  have n6k : ∀ k, k ≠ 0 → n6.1 k = ν.1 k := fun k k0 => by rw [← hn6, qx_in k0, qx_in k0, qx_in k0, qx_in k0]
  have n62 : n6.2 = ν.2 := by rw [← hn6]; rfl
  have n70 : n7.1 0 = n6.1 0 := (p2 0 (by simp)).1
  have m830 : m8.1 30 = m7.1 30 := (c2 30 (by simp)).1
  have hB : ∀ j, j < len → (ν.1 3 j).toNatClampNeg < 256 ∧ ν.1 3 j = nI (ν.1 3 j).toNatClampNeg ∧ μ.1 1 j &&& 255 = nI (ν.1 3 j).toNatClampNeg := fun j hj => by
    obtain ⟨b, b1, b2, b3⟩ := hb j hj
    rw [b2, nI_clamp (by omega)]
    exact ⟨b1, rfl, b3⟩
  have T1 : pTxc (fun j => (ν.1 3 j).toNatClampNeg) len m8 := ⟨hlen, fun j hj => ⟨(hB j hj).1, by rw [(c2 1 (by simp)).1, m7k 1 (by decide) (by decide)]; exact (hB j hj).2.2⟩, by rw [m830]; exact m72, by rw [c3]; exact m7b⟩
  have T2 : pTxr (fun j => (ν.1 3 j).toNatClampNeg) len n7 := ⟨hlen, fun j hj => ⟨(hB j hj).1, by rw [(p2 3 (by simp)).1, n6k 3 (by decide)]; exact (hB j hj).2.1⟩, by rw [n70]; exact n60.1⟩
  generalize (fun j => (ν.1 3 j).toNatClampNeg) = B at T1 T2
  obtain ⟨μ9, ν8, f1, f2, f3, f4, f5⟩ := pq_first T1 T2 (by rw [m830]; exact m73) (by rw [m830]; exact m77) (by rw [n70]; exact n60.2.2.1) (by rw [n70]; exact n60.2.2.2)
  rw [f1, pq_bndS, f2, pq_bndS]
  have E : ∀ k, k ≠ 30 → μ9.1 k = m8.1 k := fun k hk => (f3.1 k (by simp <;> omega)).1
  have R : ν8.1 4 = n7.1 4 := (f4.1 4 (by simp)).1
  obtain ⟨μ10, ν9, h1, h2, h3, h4, h5⟩ := ln_head f5 ⟨by rw [E 16 (by decide)]; exact c4 3 (by omega), by rw [R]; exact p4 3 (by omega), by omega, fun k hk => absurd hk (Nat.not_lt_zero _)⟩ ⟨by rw [E 16 (by decide)]; exact c4 5 (by omega), by rw [R]; exact p4 4 (by omega), by omega, fun k hk => absurd hk (Nat.not_lt_zero _)⟩ ⟨by rw [E 16 (by decide)]; exact c4 10 (by omega), by rw [R]; exact p4 5 (by omega), by omega, fun k hk => absurd hk (Nat.not_lt_zero _)⟩ ⟨by rw [E 23 (by decide)]; exact c5 3 (by omega) (by omega), by rw [R]; exact p4 276 (by omega), Or.inl ⟨by rw [R]; exact p4 6 (by omega), by rw [E 23 (by decide)]; exact (c5 5 (by omega) (by omega)).trans (c5 4 (by omega) (by omega)).symm⟩, Or.inl ⟨by rw [R]; exact p4 7 (by omega), by rw [E 23 (by decide)]; exact (c5 7 (by omega) (by omega)).trans (c5 6 (by omega) (by omega)).symm⟩⟩ (by rw [R]; exact p4 0 (by omega)) (by rw [R]; exact p4 85 (by omega))
  obtain ⟨μ', ν', l1, l2, l3, l4, l5⟩ := ln_loop (B := B) (len := len) 900 0 zz_fuel zz_fuel μ10 ν9 (by omega) (by omega) (by omega) h5
  rw [nI_0] at l1
  have fc : pWc m8 μ' := pWcT (pWcT (pWc_N (pWc0 m8) f3) h3) l3
  have fr : pWr n7 ν' := pWrT (pWrT (pWr_Z (pWr0 n7) f4) h4) l4
  have q0 : μ'.1 0 = (zz_setI μ 0 1 0).1 0 := by rw [(fc.1 0 (by simp)).1, (c2 0 (by simp)).1, m70]
  have q2 : μ'.2 = m7.2 := fc.2.1.trans c3
  refine ⟨μ', ν', by rw [h1, pq_bndS]; exact l1, h2.trans l2, fun k k0 k1 => ?_, by rw [q2]; exact m7a, by rw [q2]; exact m7c, by rw [q2]; exact m7b, by rw [q0, qx_isE], by rw [q0, qx_isN (by decide)], fun k k0 k4 => ?_, ?_, ?_, ?_⟩
  · rw [(fc.1 k (by simp <;> omega)).1, (c2 k (by simp <;> omega)).1, m7k k k0 (by omega)]
  · rw [(fr.1 k (by simp <;> omega)).1, (p2 k (by simp <;> omega)).1, n6k k k0]
  · rw [fr.2.1, p3, n62]
  · rw [fr.2.2 5 (by omega), n70]; exact n60.2.1
  · rcases l5 with ⟨p, H, I, F, N, l, o, hD, hN, hl⟩ | ⟨w, p, hf⟩
    · refine Or.inl ⟨pOK_7 o, ?_, pOK_11 o, H, I, F, N, l, hD, hN, hl⟩
      rw [(fc.2.2 (pOK_7 o)).2, m830]; exact m78
    · exact Or.inr ⟨w, p, hf.1.2.2.2.1, hf.1.2.2.2.2.1, hf.1.2.2.2.2.2, hf.2.1, hf.2.2⟩
theorem op_desk : zL_op1 pI := by
  intro n μ ν p1 ⟨a, hv, hS, hc, hr, hx⟩
  have k0 := pr_t0 hr 0 (by decide) 0
  have hx1 := pI_xK hx (pK_c0 μ) k0.1
  have fin := pI_mk hv hS hx hc (pK_c0 μ) k0.2.1 k0.1
  have hr1 := k0.2.1
  have hS1 : pv_S a (pr_st (zz_setI ν 0 0 0)) := by rw [k0.2.2]; exact hS
  have hc1 : pI_c μ a (pr_st (zz_setI ν 0 0 0)) := by rw [k0.2.2]; exact hc
  unfold f_X11_desk f_X12_desk
  rw [pq_letM, pq_letM]
  clear k0
  generalize zz_setI ν 0 0 0 = ν1 at *
  obtain ⟨L, t1, t2, t3, t4⟩ := hx1.2.2.2.1
  have a0 : (0 : Int64).toInt = 0 := rfl
  rcases pi_within p1.toInt64 0 (ν1.1 0 5).toInt64 with ⟨q1, q2, q3⟩ | ⟨q1, q3⟩
  · rw [Int32.toInt_toInt64, a0] at q1
    rw [Int32.toInt_toInt64, Int32.toInt_toInt64, t3, nI_toInt (by omega)] at q2
    obtain ⟨len, i1, i2, i3⟩ := pi_to (x := p1) q1
    have hlen : len ≤ L := by omega
    have hp1n : ¬ p1 < 0 := by rw [pi_neg]; omega
    have hp1l : p1 ≤ μ.1 0 1 := by rw [t2, pi_nle (by omega)]; exact q2
    obtain ⟨m2, ν2, r1, r2, r3, r4, r5, r6, r7, r8, r9, r10, r11, rE⟩ := rd_core (μ := μ) (ν := ν1) (len := len) (by omega) (fun j hj => t4 j (by omega))
    rw [q3, pq_bndS, if_neg (show ¬ (1 : Int32) = 0 by decide), if_neg hp1n, if_pos hp1l, i1, r1, pq_bndS, pq_letM, pq_letM, pq_letM, pq_letM, pq_letM, pq_letM, r2]
    have e02 : (zz_setI (zz_setI m2 0 2 (m2.1 30 7)) 0 3 ((zz_setI m2 0 2 (m2.1 30 7)).1 30 8)).1 0 2 = m2.1 30 7 := by rw [qx_isN (by decide), qx_isE]
    have hfr : ∀ v v', pq_fr [0, 4] ν1 (zz_setI (zz_setI ν2 0 13 v) 0 14 v') := fun v v' => pq_frI (pq_frI (fun k hk => ⟨r9 k (fun z => hk (by simp [z])) (fun z => hk (by simp [z])), by rw [r10], by rw [r10]⟩) _ _ (by simp)) _ _ (by simp)
    have hk2 : ∀ v v' k, k ≠ 0 → (k < 16 ∨ 30 < k) → (zz_setI (zz_setI m2 0 2 v) 0 3 v').1 k = μ.1 k := fun v v' k k0 k1 => by rw [qx_in k0, qx_in k0]; exact r3 k k0 k1
    have hX : ∀ v v', pI_x n (zz_setI (zz_setI m2 0 2 v) 0 3 v') (zz_setI (zz_setI ν2 0 13 v) 0 14 v') a := fun v v' => pI_xD hv hx1 (hk2 v v') r4 r5 r6 (by rw [qx_isN (by decide), qx_isN (by decide)]; exact r7) (fun k k0 k4 => by rw [qx_in k0, qx_in k0]; exact r9 k k0 k4) r10 (by rw [qx_isN (by decide), qx_isN (by decide)]; exact r11) (by rw [qx_isN (by decide), qx_isE, qx_isN (by decide), qx_isE]) (by rw [qx_isE, qx_isE])
    rcases rE with ⟨s7, s8, s11, H, I, F, N, l, hD, hN9, hl9⟩ | ⟨w, p, hw, s7, s8, s11, s12⟩
    · have s8' : (zz_setI m2 0 2 (0 : Int32)).1 30 8 = -1 := s8
      rw [e02, s7, if_pos rfl, s8']
      unfold f_X12_desk_139 f_X12_desk_163
      rw [s11, pq_letM, if_pos (show (zz_setI ν2 0 13 (0 : Int32)).1 0 11 = 0 by rw [qx_isN (by decide)]; exact s11), pq_letM, if_pos (show (zz_setI (zz_setI ν2 0 13 (0 : Int32)) 0 14 (-1)).1 0 11 = 0 by rw [qx_isN (by decide), qx_isN (by decide)]; exact s11)]
      have X1 := hX 0 (-1)
      have hk2' := hk2 0 (-1)
      have fm : pq_fr [0] m2 (zz_setI (zz_setI m2 0 2 (0 : Int32)) 0 3 (-1)) := pq_frI (pq_frI (pq_fr0 m2) _ _ (by simp)) _ _ (by simp)
      have e4 : (zz_setI (zz_setI ν2 0 13 (0 : Int32)) 0 14 (-1)).1 4 = ν2.1 4 := by rw [qx_in (by decide), qx_in (by decide)]
      generalize zz_setI (zz_setI m2 0 2 (0 : Int32)) 0 3 (-1) = m4 at *
      generalize zz_setI (zz_setI ν2 0 13 (0 : Int32)) 0 14 (-1) = νf at *
      obtain ⟨d1, d2, d3, d4⟩ := pDx_out hD hN9 (by omega)
      have d85 : ν2.1 4 85 = 0 := hD.2.2.2.2.2.2.2.2.2.1
      generalize ν2.1 4 = A at *
      obtain ⟨m', e0, e1, e2, e3, e5⟩ := pc_copyP 2 16 m4 (by omega)
      obtain ⟨νc, z1, z2, z3, z4, z5⟩ := pr_cpy (m := νf)
      rw [e0, pq_bndS, z1]
      unfold f_X5_clear f_X12_desk_208
      rw [pq_letM, pq_bndS]
      have hp4 : pc_plan m4 16 A := pc_planF d1 fm (fun j hj => by simp)
      have hs4 : pc_stand m4 (16 + 11) (pN A) (pF A) (fun k => A (66 + k)) := pc_standF d2 fm (by simp) (by simp) (by simp)
      have f34 : pq_fr [34] m' (zz_setI m' 34 2 0) := pq_frI (pq_fr0 m') _ _ (by simp)
      have ec : ∀ k, ¬ (2 ≤ k ∧ k ≤ 15 ∧ k ≠ 11 ∧ k ≠ 12) → m'.1 k = m4.1 k := fun k hk => (e1 k (by omega)).1
      have hst : ∀ k, k < 19 → pr_st νc k = A (66 + k) := fun k hk => by
        show νc.1 1 (66 + k) = _
        rw [z4 _ (by omega), e4]
      have hp2 : pc_plan (zz_setI m' 34 2 0) 2 A := pc_planF (e3 A d3 hp4) f34 (fun j hj => by simp <;> omega)
      obtain ⟨m5, ν5, w1, w2, w3, w4, w5⟩ := pi_lay (n := n) (m1 := zz_setI m' 34 2 0) (ν1 := νc) (a := A) d3 hp2 (pc_standF (pc_standC (e5 _ _ _ (pN_b d3).1 (pF_b d3).1 hs4) (pN_b d3).1 (pF_b d3).1 hst) f34 (by simp) (by simp) (by simp)) (pv_SC d3 d4 hst) (by
        obtain ⟨G, hG⟩ := hc1.2.2.2.2.1
        exact ⟨G, fun j hj => by rw [pz_In _ _ _ (by decide), ec _ (by omega), hk2' _ (by omega) (by omega)]; exact hG j hj⟩) (by
        obtain ⟨G, hG⟩ := hc1.2.2.2.2.2.1
        exact ⟨G, fun j hj => by rw [pz_In _ _ _ (by decide), ec _ (by omega), hk2' _ (by omega) (by omega)]; exact hG j hj⟩) (fun j hj => by rw [z4 j (by omega), e4]) (by
        obtain ⟨s, nx, s1, s2, s3, s4, s5, s6⟩ := X1.1
        refine pI_x2 X1 ⟨0, nx, by omega, s2, by rw [z4 85 (by omega), e4, d85]; rfl, qx_isE, by rw [qx_isN (by decide), ec _ (by omega)]; exact s5, fun j hj => absurd hj (Nat.not_lt_zero _)⟩ ⟨fun k hk => ⟨by rw [pz_In _ _ _ (by omega), ec k (by omega)], by rw [show (zz_setI m' 34 2 0).2.1 = m'.2.1 from rfl, e2]⟩, by rw [show (zz_setI m' 34 2 0).2.2 = m'.2.2 from rfl, e2], by rw [show (zz_setI m' 34 2 0).2.2 = m'.2.2 from rfl, e2], by rw [pz_In _ _ _ (by decide), ec 0 (by omega)], by rw [pz_In _ _ _ (by decide), ec 0 (by omega)], by rw [pz_In _ _ _ (by decide), ec 0 (by omega)]⟩ ⟨fun k hk => by rw [(z2 k (by simp <;> omega)).1], by rw [z3], by rw [(z2 0 (by simp)).1], by rw [(z2 0 (by simp)).1], by rw [(z2 0 (by simp)).1], z5⟩)
      rw [w1, w2, pq_bndS, pq_bndS, pq_letM]
      refine ⟨_, _, _, rfl, ?_, w3⟩
      have v1 : (zz_setI m5 0 18 1).1 2 2 = A 0 := by rw [pz_In _ _ _ (by decide), w4]; exact hp2.2.2.1
      have v2 : ν5.1 1 0 = A 0 := by rw [w5, z4 0 (by omega), e4]
      rw [v1, v2]
    · have s8' : (zz_setI m2 0 2 (nI w)).1 30 8 = nI p := s8
      rw [e02, s7, if_neg (pr_n0 hw), s8']
      unfold f_X12_desk_139 f_X12_desk_163
      rw [s11, pq_letM]
      have g11 : (zz_setI ν2 0 13 (nI w)).1 0 11 = nI w := by rw [qx_isN (by decide)]; exact s11
      have g12 : (zz_setI ν2 0 13 (nI w)).1 0 12 = nI p := by rw [qx_isN (by decide)]; exact s12
      have g14 : (zz_setI (zz_setI ν2 0 13 (nI w)) 0 14 (nI p)).1 0 11 = nI w := by rw [qx_isN (by decide)]; exact g11
      rw [g11, if_neg (pr_n0 hw), g12, pq_letM, g14, if_neg (pr_n0 hw)]
      refine ⟨_, _, _, rfl, rfl, ?_⟩
      have e1 : (zz_setI (zz_setI ν2 0 13 (nI w)) 0 14 (nI p)).1 1 = ν1.1 1 := by rw [qx_in (by decide), qx_in (by decide)]; exact r9 1 (by decide) (by decide)
      have est : pr_st (zz_setI (zz_setI ν2 0 13 (nI w)) 0 14 (nI p)) = pr_st ν1 := by unfold pr_st; rw [e1]
      exact ⟨a, hv, by rw [est]; exact hS1, by rw [est]; exact pI_cW hc1 (hk2 _ _) (by rw [qx_isN (by decide), qx_isN (by decide)]; exact r8), ⟨by rw [e1]; exact hr1.1, pr_schedF hr1.2 (hfr _ _) (fun j g1 g2 => by simp <;> omega)⟩, hX _ _⟩
  · rw [Int32.toInt_toInt64, Int32.toInt_toInt64, t3, nI_toInt (by omega), a0] at q1
    rw [q3, pq_bndS, if_pos rfl]
    by_cases c : p1 < 0
    · rw [if_pos c]; exact ⟨_, _, _, rfl, rfl, fin⟩
    · rw [if_neg c]
      rw [pi_neg] at c
      rw [if_neg (show ¬ p1 ≤ μ.1 0 1 by rw [t2, pi_nle (by omega)]; omega)]
      exact ⟨_, _, _, rfl, rfl, fin⟩
