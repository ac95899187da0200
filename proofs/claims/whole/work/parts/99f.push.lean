/-! ===== 99f: a code for a number or a word ===== -/
theorem ps_push {B : Nat → Nat} {len sh lo hi N p : Nat} {c : Int32} {m n : zz_Mem} (ho : pOK B len p m n) (h1 : m.1 23 3 = nI N) (h2 : n.1 4 276 = nI N) (hN : N ≤ p) (ht : pkK B len p ≠ 30) (c1 : ¬ 3000 ≤ c) (c2 : 0 ≤ c) (c3 : 1000 ≤ c → lo ≤ (c - 1000).toNatClampNeg ∧ (c - 1000).toNatClampNeg < hi) : ∃ μ2 ν2 μ3 ν3, f_X3_add (pe_cm sh c) m = some μ2 ∧ f_X12_codes c n = some ν2 ∧ f_X7_next μ2 = some μ3 ∧ f_X12_next ν2 = some ν3 ∧ pSt2 B len sh lo hi N p m n [false] 0 1 0 μ3 ν3 := by
  have hl := ho.1.1
  have hp := ho.2.2.1
  obtain ⟨k1, k2, k3, k4, k5⟩ := pkE_b (B := B) hp (fun j hj => (ho.1.2.1 j hj).1)
  have hlt := k3 ht
  have l900 : (900 : Int32) = nI 900 := rfl
  have l277 : (277 : Int32) = nI 277 := rfl
  have e3 : n.1 0 11 = 0 := ho.2.2.2.2.2.2.2.2.2.2.2.1
  have a1 : f_X3_add (pe_cm sh c) m = some (zz_setI (zz_setI m 24 N (pe_cm sh c)) 23 3 (nI (N + 1))) := by
    unfold f_X3_add
    rw [h1, l900, if_neg (nI_ge (by omega) (by omega)), pq_ixE (by omega) (by decide), nI_clamp (by omega), pq_letM, pz_In _ _ _ (show (23 : Nat) ≠ 24 by decide), h1, nI_1, pq_letM]
  have a2 : f_X12_codes c n = some (zz_setI (zz_setI n 4 (277 + N) c) 4 276 (nI (N + 1))) := by
    unfold f_X12_codes
    rw [if_pos e3, h2, l277, nI_add, pq_ixE (by omega) (by decide), nI_clamp (by omega), pq_letM, qx_isN (by omega), h2, nI_1, pq_letM]
  have fc : pEc m (zz_setI (zz_setI m 24 N (pe_cm sh c)) 23 3 (nI (N + 1))) := ⟨pq_frI (pq_frI (pq_fr0 m) _ _ (by simp)) _ _ (by simp), rfl, rfl, rfl, fun j hj => by rw [qx_isN hj, pz_In _ _ _ (by decide)], fun z => ⟨z, rfl⟩⟩
  have fr : pEr n (zz_setI (zz_setI n 4 (277 + N) c) 4 276 (nI (N + 1))) := ⟨pq_frI (pq_frI (pq_fr0 n) _ _ (by simp)) _ _ (by simp), rfl, fun j _ => rfl, fun j hj => by rw [qx_isN (by omega), qx_isN (by omega)]⟩
  have o2 : pOK B len p (zz_setI (zz_setI m 24 N (pe_cm sh c)) 23 3 (nI (N + 1))) (zz_setI (zz_setI n 4 (277 + N) c) 4 276 (nI (N + 1))) := by
    obtain ⟨o1, o2, o3⟩ := ho
    exact ⟨pTxc_E o1 fc, pTxr_E o2 fr, o3⟩
  have ap : pAp sh N [c] m n (zz_setI (zz_setI m 24 N (pe_cm sh c)) 23 3 (nI (N + 1))) (zz_setI (zz_setI n 4 (277 + N) c) 4 276 (nI (N + 1))) := by
    refine ⟨qx_isE, qx_isE, fun j hj => ⟨?_, ?_⟩, fun i hi => ?_⟩
    · rw [pz_In _ _ _ (by decide), qx_isN (by omega)]
    · rw [qx_isN (by omega), qx_isN (by omega)]
    · obtain rfl : i = 0 := by rw [List.length_singleton] at hi; omega
      refine ⟨?_, ?_⟩
      · rw [qx_isN (by omega)]; exact qx_isE
      · rw [pz_In _ _ _ (by decide)]; exact qx_isE
  have hx : pEx lo hi [false] 1 [c] := fun bb s rest q1 q2 => by
    show pe_wf lo hi bb (c :: rest) s
    rw [pe_wf, if_neg c1]
    exact ⟨c2, by omega, c3, q2⟩
  obtain ⟨μ3, ν3, p2, y1, y2, y3, y4, y5, y6, y7⟩ := pj_next o2
  have ha2 := pAp_N ap y3 (pNz_y y4)
  refine ⟨_, _, μ3, ν3, a1, a2, y1, y2, pEcT fc (pEc_N y3), pErT fr (pEr_Z (pNz_y y4)), ?_⟩
  rcases y7 with o | b
  · exact Or.inl ⟨p2, [c], Nat.zero_le _, by rw [List.length_singleton]; omega, o, hx, ha2⟩
  · exact Or.inr (Or.inl ⟨p2, 1, by omega, b, ha2.1, ha2.2.1⟩)
