/-! ===== 63: the class solves, all pillars ===== -/
def pc_cnt (m : zz_Mem) (o : Nat) (a : Nat → Int32) (c : Nat → Nat) : Prop := ∀ i, i < pN a → m.1 (o + 1) i = nI (c i) ∧ c i ≤ 999
theorem pc_pend {a : Nat → Int32} {m : zz_Mem} (hv : pv_D a) (hs : pc_sched m a) {i p : Nat} (hi : i < pN a) (hp : p < pM a i) : f_X8_periodEnd m (nI i) (nI p) = some (nI (pP a i p)) := by
  have h8 := (pN_b hv).1
  have h34 := pM_b (pv_inD hv hi)
  have e := (hs.1 i hi).2.2.2 p hp
  unfold f_X8_periodEnd
  simp (disch := omega) only [qx_lit, pk_mul, nI_add, qx_ix, qx_cl, e]
theorem pc_plen {a : Nat → Int32} {m : zz_Mem} (hv : pv_D a) (hs : pc_sched m a) {i p : Nat} (hi : i < pN a) (hp : p < pM a i) : f_X8_periodDays m (nI i) (nI p) = some (iI (pf_len a i p)) := by
  have h8 := (pN_b hv).1
  have h34 := pM_b (pv_inD hv hi)
  unfold f_X8_periodDays pf_len
  by_cases h0 : p = 0
  · subst h0
    rw [if_pos (by decide), if_pos rfl, pc_pend hv hs hi hp, pq_bndS, Int.sub_zero, iI_nI]
  · have l1 : (1 : Int32) = nI 1 := rfl
    rw [if_neg (nI_nle (by omega) (by omega)), if_neg h0, pc_pend hv hs hi hp, pq_bndS, l1, pk_sub (by omega), pc_pend hv hs hi (by omega), pq_bndS, iI_nI, iI_nI, iI_sub]
theorem pM_K {a : Nat → Int32} {i p : Nat} (hp : p < pM a i) : pK a i = 2 := by
  by_cases e : pK a i = 2
  · exact e
  · unfold pM at hp; rw [if_neg e] at hp; omega
theorem pM_Q {a : Nat → Int32} {i p : Nat} (hp : p < pM a i) : pM a i = pQ a i + 1 := by unfold pM; rw [if_pos (pM_K hp)]
theorem pf_prevB {a : Nat → Int32} (hv : pv_D a) {i p : Nat} (hi : i < pN a) (hp : p ≤ pM a i) : 0 ≤ pf_prev a i p ∧ pf_prev a i p ≤ 1029 := by
  unfold pf_prev
  split
  · omega
  · have := pP_b (pv_inD hv hi) (pM_K (show p - 1 < pM a i by omega)) (k := p - 1) (by have := pM_Q (show p - 1 < pM a i by omega); omega)
    omega
theorem pt_swap {a : Nat → Int32} (hv : pv_D a) {c : Nat → Nat} {o k : Nat} (ho : o = 83 ∨ o = 88) {F : Nat → Int} (hk : k + 1 ≤ pL a) (hF : pa_F F k) {i : Nat} (hi : i < pN a) : ∀ (r p fuel : Nat) (m : zz_Mem), p + r = pM a i → r < fuel → pt_K m o a (k + 1) F → pc_cnt m o a c → pt_inv m o (F k) (pDay a (k + 1) - pDay a k) (fun f => 3600000 * f - 3600000003599999 + pf_sum a c i (pfa a (k + 1) (va_up F (k + 1) f)) p) ((c i : Int) * pf_prev a i p) p →
    ∃ m', f_X1_askSwap_16 o fuel (nI i) (nI (k + 1)) (nI p) m = some m' ∧ pq_fr [o, o + 3, o + 4] m m' ∧ pt_inv m' o (F k) (pDay a (k + 1) - pDay a k) (fun f => 3600000 * f - 3600000003599999 + pf_sum a c i (pfa a (k + 1) (va_up F (k + 1) f)) (pM a i)) ((c i : Int) * pf_prev a i (pM a i)) (pM a i) := by
  have h8 := (pN_b hv).1
  have h34 := pM_b (pv_inD hv hi)
  intro r
  induction r with
  | zero =>
    intro p fuel m h1 h2 hK hc hI
    obtain ⟨n, rfl⟩ : ∃ n, fuel = n + 1 := ⟨fuel - 1, by omega⟩
    have e : p = pM a i := by omega
    subst e
    rw [f_X1_askSwap_16, pq_ixE (by omega) (by decide), nI_clamp (by omega), (hK.2.1.1 i hi).2.2.1, if_pos (Int32.le_refl _)]
    exact ⟨m, rfl, pq_fr0 m, hI⟩
  | succ r ih =>
    intro p fuel m h1 h2 hK hc hI
    obtain ⟨n, rfl⟩ : ∃ n, fuel = n + 1 := ⟨fuel - 1, by omega⟩
    have hp : p < pM a i := by omega
    have hl := pf_lenR hv hi hp
    have cb := (hc i hi).2
    have hP := pP_b (pv_inD hv hi) (pM_K hp) (k := p) (by have := pM_Q hp; omega)
    have hd := pf_c999 (x := (c i : Int)) (y := pf_len a i p) (by omega) (by omega) hl.1 hl.2
    obtain ⟨m1, e1, f1, i1⟩ := pt_take hv ho hk hF hK hI (by omega) (due := (c i : Int) * pf_len a i p) (w := (c i : Int) * pf_len a i p) (by omega) (by omega) (by omega) (d := pP a i p) (by omega) (Or.inl hd.1)
    rw [f_X1_askSwap_16, pq_ixE (by omega) (by decide), nI_clamp (by omega), (hK.2.1.1 i hi).2.2.1, if_neg (nI_ge (by omega) (by omega)), pq_ixE (by omega) (by decide), pc_plen hv hK.2.1 hi hp, pq_bndS, pc_pend hv hK.2.1 hi hp, pq_bndS, (hc i hi).1, qx_nl (by omega), iI_l (by omega) (by omega), lI_mul, e1, pq_bndS, pq_letI, nI_1]
    obtain ⟨m', g1, g2, g3⟩ := ih (p + 1) n m1 (by omega) (by omega) (pt_KF hK f1 (by simp) ho) (by unfold pc_cnt; rw [(f1 (o + 1) (by simp)).1]; exact hc) (by
      have e2 : (c i : Int) * pf_prev a i (p + 1) = (c i : Int) * pf_prev a i p + (c i : Int) * pf_len a i p := by rw [pf_prevS, Int.mul_add]
      have e3 : (fun f => 3600000 * f - 3600000003599999 + pf_sum a c i (pfa a (k + 1) (va_up F (k + 1) f)) (p + 1)) = (fun f => 3600000 * f - 3600000003599999 + pf_sum a c i (pfa a (k + 1) (va_up F (k + 1) f)) p + (c i : Int) * pf_len a i p * pfa a (k + 1) (va_up F (k + 1) f) (pP a i p)) := by
        funext f
        rw [pf_sum]; omega
      rw [e2, e3]
      exact i1)
    exact ⟨m', g1, pq_frT f1 g2, g3⟩
/-- one pillar: what is asked -/
theorem pt_ask {a : Nat → Int32} (hv : pv_D a) {c : Nat → Nat} {o k : Nat} (ho : o = 83 ∨ o = 88) {F : Nat → Int} (hk : k + 1 ≤ pL a) (hF : pa_F F k) {m : zz_Mem} (hK : pt_K m o a (k + 1) F) (hc : pc_cnt m o a c) (s9 : m.2.1 o 9 = lI (F k)) (s10 : m.1 o 10 = nI (pDay a (k + 1) - pDay a k)) (s6 : m.1 o 6 = nI 0) :
    ∃ V W N, (∀ f, 0 ≤ f → f ≤ 1000000000 → (V f ≤ 0 ↔ pf_fits a c (k + 1) F f)) ∧ W ≤ 8000000 ∧ N ≤ 34 ∧ ∀ K : zz_Mem → Option zz_Mem, ∃ m', (if m.1 4 (pInp a (k + 1)) = 2 then zz_bndR (f_X1_askSwap o (nI (pInp a (k + 1))) (nI (k + 1)) m) K else zz_bndR (f_X1_askLoan o (nI (pInp a (k + 1))) (nI (k + 1)) m) K) = K m' ∧ pq_fr [o, o + 3, o + 4] m m' ∧ pt_inv m' o (F k) (pDay a (k + 1) - pDay a k) V W N := by
  have h8 := (pN_b hv).1
  have hfu : zz_fuel = 5000 := rfl
  obtain ⟨b1, b2, b3⟩ := pInp_b (a := a) (k := k + 1) (by omega) hk
  have hin := pv_inD hv b1
  have eb := pE_b hin
  have cb := (hc _ b1).2
  have e4 : m.1 4 (pInp a (k + 1)) = nI (pK a (pInp a (k + 1))) := by rw [show m.1 4 (pInp a (k + 1)) = a (24 + pInp a (k + 1)) from (hK.1.2.2.2.2.2.2.2.1 _ b1).1]; exact hin.1.1
  have b24 : pK a (pInp a (k + 1)) ≤ 2 := hin.1.2
  have lB : (3600000 : Int64) = lI 3600000 := rfl
  have l2 : (2 : Int32) = nI 2 := rfl
  rw [e4]
  by_cases k2 : pK a (pInp a (k + 1)) = 2
  · have lM : (3600000003599999 : Int64) = lI 3600000003599999 := rfl
    have hM : pM a (pInp a (k + 1)) = pQ a (pInp a (k + 1)) + 1 := by unfold pM; rw [if_pos k2]
    have h34 := pM_b hin
    have hpr := pf_prevB hv b1 (Nat.le_refl (pM a (pInp a (k + 1))))
    have hd := pf_c999 (x := (c (pInp a (k + 1)) : Int)) (y := pf_prev a (pInp a (k + 1)) (pM a (pInp a (k + 1)))) (by omega) (by omega) hpr.1 hpr.2
    refine ⟨fun f => 3600000 * f - 3600000003599999 + pf_sum a c (pInp a (k + 1)) (pfa a (k + 1) (va_up F (k + 1) f)) (pM a (pInp a (k + 1))), (c (pInp a (k + 1)) : Int) * pf_prev a (pInp a (k + 1)) (pM a (pInp a (k + 1))), pM a (pInp a (k + 1)), ?_, ?_, ?_, fun K => ?_⟩
    rotate_left 3
    · rw [if_pos (show nI (pK a (pInp a (k + 1))) = 2 by rw [k2]; rfl)]
      unfold f_X1_askSwap
      rw [pq_letM, pq_letM, lB, lM]
      have fr : pq_fr [o, o + 3, o + 4] m (zz_setJ (zz_setJ m o 7 (lI 3600000)) o 8 (lI 3600000003599999)) := pq_frJ (pq_frJ (pq_fr0 m) _ _ (by simp)) _ _ (by simp)
      obtain ⟨m', g1, g2, g3⟩ := pt_swap hv (c := c) ho hk hF b1 (pM a (pInp a (k + 1))) 0 zz_fuel (zz_setJ (zz_setJ m o 7 (lI 3600000)) o 8 (lI 3600000003599999)) (by omega) (by omega) (pt_KF hK fr (by simp) ho) hc (by
        refine ⟨3600000, 3600000003599999, 0, fun _ => 0, fun _ => 0, ⟨?_, qx_jsE, ?_, s10, s6, fun j hj => absurd hj (Nat.not_lt_zero _)⟩, fun f => ?_, by omega, ?_, ?_, ?_, by omega, fun j hj => absurd hj (Nat.not_lt_zero _), fun f h1 h2 => ?_⟩
        · rw [qx_jsN (by decide), qx_jsE]
        · rw [qx_jsN (by decide), qx_jsN (by decide)]; exact s9
        · show _ = 3600000 * f - 3600000003599999 + 0
          rw [pt_ms]; omega
        all_goals (unfold pf_prev; simp [pt_ms]))
      rw [nI_0] at g1
      rw [g1, pq_bndS]
      exact ⟨m', rfl, pq_frT fr g2, g3⟩
    · intro f hf1 hf2
      have hg : ∀ d, 0 ≤ pfa a (k + 1) (va_up F (k + 1) f) d ∧ pfa a (k + 1) (va_up F (k + 1) f) d ≤ 1000000000 := fun d => pa_faB (pD_Dk hv hk) (fun j hj => by
        by_cases c : j = k + 1
        · rw [c, pf_up]; omega
        · rw [pf_upn c]; exact hF j (by omega))
      have hS := pf_sumB (a := a) (c := c) (i := pInp a (k + 1)) hg (pM a (pInp a (k + 1)))
      show 3600000 * f - 3600000003599999 + pf_sum a c (pInp a (k + 1)) (pfa a (k + 1) (va_up F (k + 1) f)) (pM a (pInp a (k + 1))) ≤ 0 ↔ _
      unfold pf_fits
      constructor
      · intro h
        refine ⟨fun _ => ?_, fun e => absurd k2 e⟩
        omega
      · intro h
        have := h.1 k2
        omega
    · omega
    · exact h34
  · have hgap : 0 ≤ (pE a (pInp a (k + 1)) : Int) - (pS a (pInp a (k + 1)) : Int) ∧ (pE a (pInp a (k + 1)) : Int) - (pS a (pInp a (k + 1)) : Int) ≤ 1029 := by omega
    have hd := pf_c999 (x := (c (pInp a (k + 1)) : Int)) (y := (pE a (pInp a (k + 1)) : Int) - (pS a (pInp a (k + 1)) : Int)) (by omega) (by omega) hgap.1 hgap.2
    have sb := pS_b hin
    refine ⟨fun f => (3600000 + (c (pInp a (k + 1)) : Int) * ((pE a (pInp a (k + 1)) : Int) - (pS a (pInp a (k + 1)) : Int))) * f + (-3600000) * pfa a (k + 1) (va_up F (k + 1) f) (pS a (pInp a (k + 1))), 0 + 3600000, 0 + 1, ?_, ?_, ?_, fun K => ?_⟩
    rotate_left 3
    · rw [if_neg (show ¬ nI (pK a (pInp a (k + 1))) = 2 by rw [l2, nI_eq (by omega) (by decide)]; exact k2)]
      unfold f_X1_askLoan f_X8_daysOf
      have l0 : (0 : Int64) = lI 0 := rfl
      rw [pq_ixE (by omega) (by decide), nI_clamp (by omega), (hK.2.1.1 _ b1).1, pq_letI, pq_ixE (by omega) (by decide), pq_ixE (by omega) (by decide), pq_ixE (by omega) (by decide), (hK.2.1.1 _ b1).2.1, pq_bndS, qx_sl (by omega) (by omega), (hc _ b1).1, qx_nl (by omega), lI_mul, lB, lI_add, pq_letM, pq_letM, l0, lI_neg]
      generalize hown : 3600000 + (c (pInp a (k + 1)) : Int) * ((pE a (pInp a (k + 1)) : Int) - (pS a (pInp a (k + 1)) : Int)) = own
      have fr : pq_fr [o, o + 3, o + 4] m (zz_setJ (zz_setJ m o 7 (lI own)) o 8 (lI 0)) := pq_frJ (pq_frJ (pq_fr0 m) _ _ (by simp)) _ _ (by simp)
      have hI0 : pt_inv (zz_setJ (zz_setJ m o 7 (lI own)) o 8 (lI 0)) o (F k) (pDay a (k + 1) - pDay a k) (fun f => own * f) 0 0 := by
        refine ⟨own, 0, 0, fun _ => 0, fun _ => 0, ⟨?_, qx_jsE, ?_, s10, s6, fun j hj => absurd hj (Nat.not_lt_zero _)⟩, fun f => ?_, by omega, by omega, by omega, by omega, by omega, fun j hj => absurd hj (Nat.not_lt_zero _), fun f h1 h2 => ?_⟩
        · rw [qx_jsN (by decide), qx_jsE]
        · rw [qx_jsN (by decide), qx_jsN (by decide)]; exact s9
        · show _ = own * f
          rw [pt_ms]; omega
        · rw [pt_ms]; omega
      obtain ⟨m', e1, f1, i1⟩ := pt_take hv ho hk hF (pt_KF hK fr (by simp) ho) hI0 (by omega) (due := -3600000) (w := 3600000) (by omega) (by omega) (by omega) (d := pS a (pInp a (k + 1))) (by omega) (Or.inr (by omega))
      rw [e1, pq_bndS]
      subst hown
      exact ⟨m', rfl, pq_frT fr f1, i1⟩
    · intro f hf1 hf2
      unfold pf_fits
      have e : (3600000 + (c (pInp a (k + 1)) : Int) * ((pE a (pInp a (k + 1)) : Int) - (pS a (pInp a (k + 1)) : Int))) * f = f * (3600000 + (c (pInp a (k + 1)) : Int) * ((pE a (pInp a (k + 1)) : Int) - (pS a (pInp a (k + 1)) : Int))) := Int.mul_comm _ _
      simp only [e]
      constructor
      · intro h
        exact ⟨fun e => absurd e k2, fun _ => by omega⟩
      · intro h
        have := h.2 k2
        omega
    · omega
    · omega
/-- all factors of a curve of the class lie within bounds -/
def pc_fb (m : zz_Mem) (o : Nat) : Prop := ∃ G : Nat → Int, ∀ j, j ≤ 8 → 0 ≤ G j ∧ G j ≤ 1000000000 ∧ m.1 (o + 2) j = iI (G j)
theorem pt_solve {a : Nat → Int32} (hv : pv_D a) {c : Nat → Nat} {o : Nat} (ho : o = 83 ∨ o = 88) : ∀ (r k fuel : Nat) (m : zz_Mem) (F : Nat → Int), k + r = pL a → r < fuel → pt_K m o a (k + 1) F → pc_cnt m o a c → pf_FS a c F k →
    ∃ m' F', f_X1_solve_14 o fuel (nI (k + 1)) m = some m' ∧ pq_fr [o, o + 2, o + 3, o + 4] m m' ∧ pf_FS a c F' (pL a) ∧ (∀ j, j ≤ pL a → m'.1 (o + 2) j = iI (F' j)) ∧ pc_fb m' o := by
  have hL8 := (pD_D hv).2.1
  have h8 := (pN_b hv).1
  intro r
  induction r with
  | zero =>
    intro k fuel m F h1 h2 hK hc hF
    obtain ⟨n, rfl⟩ : ∃ n, fuel = n + 1 := ⟨fuel - 1, by omega⟩
    have e : k = pL a := by omega
    subst e
    rw [f_X1_solve_14, hK.2.1.2.1.1, if_pos (Int32.le_refl _)]
    exact ⟨m, F, rfl, pq_fr0 m, hF, fun j hj => hK.2.2.1 j (by omega), hK.2.2.2⟩
  | succ r ih =>
    intro k fuel m F h1 h2 hK hc hF
    obtain ⟨n, rfl⟩ : ∃ n, fuel = n + 1 := ⟨fuel - 1, by omega⟩
    have hk : k + 1 ≤ pL a := by omega
    have hFb := pf_FSb hF
    have hFk := hFb k (Nat.le_refl _)
    have hD := pD_D hv
    have d1 := hD.2.2.1 (k + 1) hk
    have d2 := hD.2.2.2 k (by omega)
    obtain ⟨b1, b2, b3⟩ := pInp_b (a := a) (k := k + 1) (by omega) hk
    have l9 : (9 : Int32) = nI 9 := rfl
    have l0 : (0 : Int32) = nI 0 := rfl
    have t79 : ∀ j, j ≤ pL a → m.1 79 j = nI (pDay a j) := hK.2.1.2.1.2.1
    rw [f_X1_solve_14, hK.2.1.2.1.1, if_neg (nI_ge (by omega) (by omega)), l9, if_neg (nI_ge (by omega) (by omega)), nI_pred, pq_ixE (by omega) (by decide), nI_clamp (by omega), hK.2.2.1 k (by omega), iI_l (by omega) (by omega), pq_letM, pq_ixE (by omega) (by decide), pq_ixE (by omega) (by decide), nI_clamp (by omega), pz_JI, t79 (k + 1) hk, t79 k (by omega), pk_sub (by omega), pq_letM, l0, pq_letM, pq_ixE (by omega) (by decide)]
    generalize hm3 : zz_setI (zz_setI (zz_setJ m o 9 (lI (F k))) o 10 (nI (pDay a (k + 1) - pDay a k))) o 6 (nI 0) = m3
    have f3 : pq_fr [o, o + 3, o + 4] m m3 := by rw [← hm3]; exact pq_frI (pq_frI (pq_frJ (pq_fr0 m) _ _ (by simp)) _ _ (by simp)) _ _ (by simp)
    have hK3 := pt_KF hK f3 (by simp) ho
    have hc3 : pc_cnt m3 o a c := by unfold pc_cnt; rw [(f3 (o + 1) (by simp)).1]; exact hc
    have e80 : m3.1 80 (k + 1) = nI (pInp a (k + 1)) := hK3.2.1.2.1.2.2.1 (k + 1) (by omega) hk
    rw [e80, pq_letI, pq_ixE (by omega) (by decide), nI_clamp (by omega)]
    obtain ⟨V, W, N, hV, hW, hN, hask⟩ := pt_ask hv (c := c) ho hk hFb hK3 hc3 (by rw [← hm3]; exact qx_jsE) (by rw [← hm3, qx_isN (by decide), qx_isE]) (by rw [← hm3, qx_isE])
    obtain ⟨m4, e4, f4, i4⟩ := hask (fun m6 => f_X1_solve_112 o (f_X1_solve_14 o n) (nI (k + 1)) m6)
    rw [e4]
    have hH : pt_H m4 o (pf_fits a c (k + 1) F) := by
      intro f hf1 hf2
      rcases pt_holds hFk.1 hFk.2 (show 0 < pDay a (k + 1) - pDay a k by omega) (by omega) i4 hW hN hf1 hf2 with ⟨p1, p2⟩ | ⟨p1, p2⟩
      · exact Or.inl ⟨(hV f hf1 hf2).mp p1, p2⟩
      · exact Or.inr ⟨fun z => p1 ((hV f hf1 hf2).mpr z), p2⟩
    have key : ∃ x, f_X1_solve_112 o (f_X1_solve_14 o n) (nI (k + 1)) m4 = f_X1_solve_139 o (f_X1_solve_14 o n) (nI (k + 1)) (lI x) (nI (k + 1)) m4 ∧ 0 ≤ x ∧ x ≤ 1000000000 ∧ (x = 0 ∨ pf_fits a c (k + 1) F x) ∧ (x = 1000000000 ∨ ¬ pf_fits a c (k + 1) F (x + 1)) := by
      unfold f_X1_solve_112
      by_cases c6 : m4.1 o 6 = 0
      · obtain ⟨x, q1, q2, q3, q4, q5⟩ := pt_once i4 hW hN c6
        rw [if_pos c6, q1, pq_bndS]
        refine ⟨x, rfl, q2, q3, q4.imp id (fun z => (hV x q2 q3).mp z), ?_⟩
        by_cases cx : x = 1000000000
        · exact Or.inl cx
        · exact Or.inr (fun z => (q5.resolve_left cx) ((hV (x + 1) (by omega) (by omega)).mpr z))
      · rw [if_neg c6]
        have s6 : ∃ nn, nn ≤ 34 ∧ m4.1 o 6 = nI nn := by
          obtain ⟨own, lim, nn, du, dy, ⟨-, -, -, -, s6, -⟩, -, -, -, -, -, b5, -⟩ := i4
          exact ⟨nn, by omega, s6⟩
        obtain ⟨nn, n1, n2⟩ := s6
        obtain ⟨g, g1, g2, g3⟩ := pt_guess n2 n1
        obtain ⟨x, q1, q2, q3, q4, q5⟩ := pt_great hH g2 g3
        rw [g1, pq_bndS, q1, pq_bndS]
        exact ⟨x, rfl, q2, q3, q4, q5⟩
    obtain ⟨x, q1, q2, q3, q4, q5⟩ := key
    have hG := pf_mkG hv (c := c) (by omega) hk q2 q3 q4 q5
    show ∃ m' F', f_X1_solve_112 o (f_X1_solve_14 o n) (nI (k + 1)) m4 = some m' ∧ _
    rw [q1]
    unfold f_X1_solve_139
    rw [pq_ixE (by omega) (by decide), nI_clamp (by omega), lI_i, pq_letM, pq_letI, nI_1]
    have fr4 : pq_fr [o, o + 3, o + 4] m m4 := pq_frT f3 f4
    have fr5 : pq_fr [o, o + 2, o + 3, o + 4] m (zz_setI m4 (o + 2) (k + 1) (iI x)) := pq_frI (pq_frW fr4 (by simp <;> omega)) _ _ (by simp)
    have r2 : m4.1 (o + 2) = m.1 (o + 2) := (fr4 (o + 2) (by simp)).1
    have hK5 : pt_K (zz_setI m4 (o + 2) (k + 1) (iI x)) o a (k + 1 + 1) (va_up F (k + 1) x) := by
      obtain ⟨k1, k2, k3, G, k4⟩ := hK
      refine ⟨pc_planF k1 fr5 (fun j hj => by simp <;> omega), pc_schedF k2 fr5 (fun j a1 a2 => by simp <;> omega), fun j hj => ?_, va_up G (k + 1) x, fun j hj => ?_⟩
      · by_cases c : j = k + 1
        · rw [c, qx_isE, pf_up]
        · rw [qx_isN c, pf_upn c, r2]; exact k3 j (by omega)
      · by_cases c : j = k + 1
        · rw [c, qx_isE, pf_up]; exact ⟨q2, q3, rfl⟩
        · rw [qx_isN c, pf_upn c, r2]; exact k4 j hj
    have hF5 : pf_FS a c (va_up F (k + 1) x) (k + 1) := by
      refine ⟨by rw [pf_upn (by omega)]; exact hF.1, fun j hj0 hj => ?_⟩
      have e : ∀ f, pf_fits a c j (va_up F (k + 1) x) f ↔ pf_fits a c j F f := fun f => pf_fitsC rfl (fun l hl => pf_upn (by omega)) f
      have e' : pf_fits a c j (va_up F (k + 1) x) = pf_fits a c j F := funext (fun f => propext (e f))
      rw [e']
      by_cases c : j = k + 1
      · rw [c, pf_up]; exact hG
      · rw [pf_upn c]; exact hF.2 j hj0 (by omega)
    obtain ⟨m', F', z1, z2, z3, z4, z5⟩ := ih (k + 1) n _ _ (by omega) (by omega) hK5 (by unfold pc_cnt; rw [(fr5 (o + 1) (by simp)).1]; exact hc) hF5
    exact ⟨m', F', z1, pq_frT fr5 z2, z3, z4, z5⟩
theorem pc_solve {a : Nat → Int32} (hv : pv_D a) {c : Nat → Nat} {o : Nat} (ho : o = 83 ∨ o = 88) {m : zz_Mem} (hp : pc_plan m 2 a) (hs : pc_sched m a) (hc : pc_cnt m o a c) (hb : pc_fb m o) {k : Nat} (hk : k ≤ pL a) {F : Nat → Int} (hF : pf_FS a c F k) (hm : ∀ j, 1 ≤ j → j ≤ k → m.1 (o + 2) j = iI (F j)) : ∃ m' F', f_X1_solve o (nI (k + 1)) m = some m' ∧ pq_fr [o, o + 2, o + 3, o + 4] m m' ∧ pf_FS a c F' (pL a) ∧ (∀ j, j ≤ pL a → m'.1 (o + 2) j = iI (F' j)) ∧ pc_fb m' o := by
  have hL8 := (pD_D hv).2.1
  have hfu : zz_fuel = 5000 := rfl
  have lu : (1000000000 : Int32) = iI 1000000000 := rfl
  have l1 : (1 : Int32) = nI 1 := rfl
  unfold f_X1_solve f_J9_max_7cf53
  rw [pq_letM, lu]
  have fr : pq_fr [o, o + 2, o + 3, o + 4] m (zz_setI m (o + 2) 0 (iI 1000000000)) := pq_frI (pq_fr0 m) _ _ (by simp)
  have hmx : (if (1 : Int32) < nI (k + 1) then some (nI (k + 1)) else some 1) = some (nI (k + 1)) := by
    rw [l1]
    by_cases h0 : k = 0
    · rw [h0, if_neg (show ¬ nI 1 < nI (0 + 1) by decide)]
    · rw [if_pos (nI_lt (by omega) (by omega))]
  rw [hmx, pq_bndS]
  obtain ⟨G, hG⟩ := hb
  obtain ⟨m', F', z1, z2, z3, z4, z5⟩ := pt_solve hv (c := c) ho (pL a - k) k zz_fuel (zz_setI m (o + 2) 0 (iI 1000000000)) F (by omega) (by omega) ⟨pc_planF hp fr (fun j hj => by simp <;> omega), pc_schedF hs fr (fun j a1 a2 => by simp <;> omega), fun j hj => by
      by_cases c : j = 0
      · rw [c, qx_isE, hF.1]
      · rw [qx_isN c]; exact hm j (by omega) (by omega), va_up G 0 1000000000, fun j hj => by
      by_cases c : j = 0
      · rw [c, qx_isE, pf_up]; exact ⟨by decide, by decide, rfl⟩
      · rw [qx_isN c, pf_upn c]; exact hG j hj⟩ (by unfold pc_cnt; rw [(fr (o + 1) (by simp)).1]; exact hc) hF
  exact ⟨m', F', z1, pq_frT fr z2, z3, z4, z5⟩
