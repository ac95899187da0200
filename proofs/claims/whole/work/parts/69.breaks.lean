/-! ===== 69: breaks ===== -/
theorem pg_clN {k : Nat} (h : k ≤ 999) : pg_cl (nI k) = k := by
  unfold pg_cl
  rw [nI_toInt (by omega), if_neg (by omega), if_neg (by omega)]
  omega
theorem pg_clM {k : Nat} (h : 999 ≤ k) (h2 : k < 2147483648) : pg_cl (nI k) = 999 := by
  unfold pg_cl
  rw [nI_toInt (by omega), if_neg (by omega)]
  split <;> omega
theorem pW_congr {a : Nat → Int32} {c c' : Nat → Nat} (h : ∀ k, k ≤ pL a → pFac a c' k = pFac a c k) (st : Nat → Int32) : pW a c' st = pW a c st := by
  have hX : ∀ d, pX a c' d = pX a c d := fun d => pf_faC h
  unfold pW
  generalize pF a = n
  induction n with
  | zero => rfl
  | succ n ih => rw [pWs, pWs, ih, hX]
theorem pCb_0 {c : Nat → Nat} {i : Nat} (h : c i ≤ 999) : pCb c i (nI 0) = c := by
  funext j
  unfold pCb
  by_cases e : j = i
  · rw [va_up, if_pos e, nI_add, Nat.add_zero, pg_clN h, e]
  · rw [va_up, if_neg e]
theorem pCb_top {c : Nat → Nat} {i : Nat} (h : c i ≤ 999) {n : Nat} (hn : 999 - c i ≤ n) (hn2 : n ≤ 999) : pCb c i (nI n) = pCb c i (nI (999 - c i)) := by
  unfold pCb
  rw [nI_add, nI_add, pg_clM (by omega) (by omega), pg_clM (by omega) (by omega)]
theorem pBk_self {w : Int64} (h : ¬ w = 0) : ¬ pBk w w := fun z => z.elim h (fun q => q Iff.rfl)
theorem op_breaks : zL_op29 pI := by
  intro n μ ν p1 ⟨a, hv, hS, hc, hr, hx⟩
  obtain ⟨k0, r0, s0⟩ := pr_t0 hr 0 (by decide) 0
  unfold f_X11_breaks f_X12_breaks
  rw [pq_letM]
  generalize zz_setI ν 0 0 0 = ν1 at *
  have fin := pI_mk hv hS hx hc (pK_c0 μ) r0 k0
  have hfu : zz_fuel = 5000 := rfl
  have l999 : (999 : Int32) = nI 999 := rfl
  rcases pi_input hv hc.1 r0 p1 with ⟨i, i1, i2, i3, i4, i5⟩ | ⟨i4, i5⟩
  · rw [i4, i5, pq_bndS, pq_bndS, if_neg (show ¬ (1 : Int32) = 0 by decide), if_neg (show ¬ (1 : Int32) = 0 by decide), i3]
    obtain ⟨ν2, e2, u1, u2, u3⟩ := pr_worthNow hv r0
    obtain ⟨μ1, e1, t2, t1, w1, -⟩ := pc_solvedNow hv hc
    have us : pr_st ν2 = pr_st ν := u3.trans s0
    have cb := pCn_b a (pr_st ν) i
    rw [e1, e2, pq_bndS, pq_bnd2, pc_worth hv (fun i _ => pCn_b _ _ i) t1 w1, pq_bndS, s0]
    have fin2 := pI_mk hv hS hx t1 t2 u2 (pK_rT k0 u1)
    generalize hw : pW a (pCn a (pr_st ν)) (pr_st ν) = w
    by_cases hw0 : w = 0
    · rw [if_pos hw0, if_pos hw0]; exact ⟨_, _, _, rfl, rfl, fin2⟩
    · rw [if_neg hw0, if_neg hw0, pq_ixE (by omega) (by decide), nI_clamp (by omega)]
      have tail : ∀ (r k fuel : Nat) (ν3 : zz_Mem), k + r = 1000 → r < fuel → pI_r ν3 a → pr_st ν3 = pr_st ν → (∀ j, k ≤ j → j ≤ 999 → ¬ pBk w (pW a (pCb (pCn a (pr_st ν)) i (nI j)) (pr_st ν))) → ∃ ν', f_X12_breaks_33 fuel (nI i) w (nI k) ν3 = some (-1, ν') ∧ pI_r ν' a ∧ pK_r ν3 ν' := by
        intro r
        induction r with
        | zero =>
          intro k fuel ν3 h1 h2 hr3 hs3 hb
          obtain ⟨fu, rfl⟩ : ∃ n, fuel = n + 1 := ⟨fuel - 1, by omega⟩
          rw [f_X12_breaks_33, l999, if_pos (nI_lt (by omega) (by omega))]
          exact ⟨_, rfl, hr3, pK_r0 _⟩
        | succ r ih =>
          intro k fuel ν3 h1 h2 hr3 hs3 hb
          obtain ⟨fu, rfl⟩ : ∃ n, fuel = n + 1 := ⟨fuel - 1, by omega⟩
          obtain ⟨ν4, q5, v1, v2, v3⟩ := pr_worthWith hv hr3 i1 (nI k)
          rw [hs3] at q5
          rw [f_X12_breaks_33, l999, if_neg (nI_nlt (by omega) (by omega)), q5, pq_bnd2, (pBk_r hw0).2 (hb k (by omega) (by omega)), nI_1]
          obtain ⟨ν', z1, z2, z3⟩ := ih (k + 1) fu ν4 (by omega) (by omega) v2 (v3.trans hs3) (fun j g1 g2 => hb j (by omega) g2)
          exact ⟨ν', z1, z2, pK_rT v1 z3⟩
      have hL8 := (pD_D hv).2.1
      rcases t1.2.2.2.1.2.2 i i1 with ⟨l, l1, l2, l3, l4⟩ | ⟨l1, l4⟩
      · have lne : ¬ nI l = -1 := by
          intro e
          have : (nI l).toInt = (-1 : Int32).toInt := by rw [e]
          rw [nI_toInt (by omega)] at this
          have e1 : (-1 : Int32).toInt = -1 := rfl
          rw [e1] at this
          omega
        have e84 : μ1.1 84 i = nI (pCn a (pr_st ν) i) := (w1.1 i i1).1
        rw [l4, if_neg lne, pq_ixE (by omega) (by decide), e84, l999, pk_sub (by omega), pq_letI]
        generalize hn0 : 999 - pCn a (pr_st ν) i = n0
        have htop : ∀ j, n0 ≤ j → j ≤ 999 → pW a (pCb (pCn a (pr_st ν)) i (nI j)) (pr_st ν) = pW a (pCb (pCn a (pr_st ν)) i (nI n0)) (pr_st ν) := fun j g1 g2 => by rw [pCb_top cb (by omega) g2, hn0]
        have joint : ∀ (r k fuel fuel' : Nat) (μ2 ν3 : zz_Mem), k + r = n0 + 1 → 1002 < fuel + k → 1002 < fuel' + k → pI_c μ2 a (pr_st ν) → pI_r ν3 a → pr_st ν3 = pr_st ν → (k = n0 + 1 → ¬ pBk w (pW a (pCb (pCn a (pr_st ν)) i (nI n0)) (pr_st ν))) → ∃ x μ' ν', f_X11_breaks_61 fuel (nI i) w (nI n0) (nI k) μ2 = some (x, μ') ∧ f_X12_breaks_33 fuel' (nI i) w (nI k) ν3 = some (x, ν') ∧ pI_c μ' a (pr_st ν) ∧ pK_c μ2 μ' ∧ pI_r ν' a ∧ pK_r ν3 ν' := by
          intro r
          induction r with
          | zero =>
            intro k fuel fuel' μ2 ν3 h1 h2 h2' hc2 hr3 hs3 hb
            obtain ⟨fu, rfl⟩ : ∃ n, fuel = n + 1 := ⟨fuel - 1, by omega⟩
            obtain ⟨ν', z1, z2, z3⟩ := tail (1000 - k) k fuel' ν3 (by omega) (by omega) hr3 hs3 (fun j g1 g2 => by rw [htop j (by omega) g2]; exact hb (by omega))
            rw [f_X11_breaks_61, if_pos (nI_lt (by omega) (by omega))]
            exact ⟨_, _, ν', rfl, z1, hc2, pK_c0 _, z2, z3⟩
          | succ r ih =>
            intro k fuel fuel' μ2 ν3 h1 h2 h2' hc2 hr3 hs3 hb
            obtain ⟨fu, rfl⟩ : ∃ n, fuel = n + 1 := ⟨fuel - 1, by omega⟩
            obtain ⟨fu', rfl⟩ : ∃ n, fuel' = n + 1 := ⟨fuel' - 1, by omega⟩
            obtain ⟨μ3, q4, t4, t3, w3, w4, -⟩ := pc_trial hv hc2 i1 (nI k)
            obtain ⟨ν4, q5, v1, v2, v3⟩ := pr_worthWith hv hr3 i1 (nI k)
            rw [hs3] at q5
            rw [f_X11_breaks_61, f_X12_breaks_33, l999, if_neg (nI_nlt (by omega) (by omega)), if_neg (nI_nlt (by omega) (by omega)), q4, q5, pq_bndS, pq_bnd2, pc_worth hv (fun i _ => pCb_b (pCn_b _ _ i)) t3 w4, pq_bndS]
            by_cases hbk : pBk w (pW a (pCb (pCn a (pr_st ν)) i (nI k)) (pr_st ν))
            · rw [(pBk_c hw0).1 hbk, (pBk_r hw0).1 hbk]
              exact ⟨_, _, _, rfl, rfl, t3, t4, v2, v1⟩
            · rw [(pBk_c hw0).2 hbk, (pBk_r hw0).2 hbk, nI_1]
              obtain ⟨x, μ', ν', z1, z2, z3, z4, z5, z6⟩ := ih (k + 1) fu fu' μ3 ν4 (by omega) (by omega) (by omega) t3 v2 (v3.trans hs3) (fun e => by rw [show n0 = k by omega]; exact hbk)
              exact ⟨x, μ', ν', z1, z2, z3, pK_cT t4 z4, z5, pK_rT v1 z6⟩
        have hfz : zz_fuel = 4999 + 1 := rfl
        obtain ⟨ν4, q5, v1, v2, v3⟩ := pr_worthWith hv u2 i1 (nI 0)
        rw [us, pCb_0 cb, hw] at q5
        obtain ⟨x, μ', ν', z1, z2, z3, z4, z5, z6⟩ := joint n0 1 zz_fuel 4999 μ1 ν4 (by omega) (by omega) (by omega) t1 v2 (v3.trans us) (fun e => by rw [show n0 = 0 by omega, pCb_0 cb, hw]; exact pBk_self hw0)
        have hstep : f_X12_breaks_33 zz_fuel (nI i) w (nI 0) ν2 = f_X12_breaks_33 4999 (nI i) w (nI 1) ν4 := by
          rw [hfz, f_X12_breaks_33, l999, if_neg (nI_nlt (by omega) (by omega)), q5, pq_bnd2, (pBk_r hw0).2 (pBk_self hw0), nI_1]
        rw [nI_0] at hstep
        rw [hstep]
        exact ⟨x, μ', ν', z1, z2, pI_mk hv hS hx z3 (pK_cT t2 z4) z5 (pK_rT k0 (pK_rT u1 (pK_rT v1 z6)))⟩
      · rw [l4, if_pos rfl]
        obtain ⟨ν', z1, z2, z3⟩ := tail 1000 0 zz_fuel ν2 (by omega) (by omega) u2 us (fun j g1 g2 => by
          rw [pW_congr (c := pCn a (pr_st ν)) (pFac_un w1.2.1 (fun k q1 q2 => by unfold pCb; rw [va_up, if_neg (l1 k q1 q2)])), hw]
          exact pBk_self hw0)
        rw [nI_0] at z1
        exact ⟨_, _, ν', rfl, z1, pI_mk hv hS hx t1 t2 z2 (pK_rT k0 (pK_rT u1 z3))⟩
  · rw [i4, i5, pq_bndS, pq_bndS, if_pos rfl, if_pos rfl]; exact ⟨_, _, _, rfl, rfl, fin⟩
