/-! ===== 60: the reference solves ===== -/
def pr_K (m : zz_Mem) (a : Nat → Int32) (c : Nat → Nat) (k : Nat) (F : Nat → Int) : Prop := pv_ag (m.1 1) a ∧ pr_sched m a ∧ pr_cnt m a c ∧ m.1 0 28 = nI (k + 1) ∧ (∀ j, j ≤ k → m.1 13 j = nI (pDay a j)) ∧ ∀ j, j < k → m.1 14 j = iI (F j)
theorem pr_Kset {m : zz_Mem} {a : Nat → Int32} {c : Nat → Nat} {k : Nat} {F : Nat → Int} (h : pr_K m a c k F) (v : Int32) : pr_K (zz_setI m 14 k v) a c k F := by
  obtain ⟨h1, h2, h3, h4, h5, h6⟩ := h
  have fr : pq_fr [14] m (zz_setI m 14 k v) := pq_frI (pq_fr0 m) _ _ (by simp)
  refine ⟨?_, pr_schedF h2 fr (fun j a1 a2 => by simp <;> omega), ?_, ?_, ?_, fun j hj => ?_⟩
  · rw [(fr 1 (by simp)).1]; exact h1
  · unfold pr_cnt; rw [(fr 12 (by simp)).1]; exact h3
  · rw [(fr 0 (by simp)).1]; exact h4
  · rw [(fr 13 (by simp)).1]; exact h5
  · rw [qx_isN (by omega)]; exact h6 j hj
theorem pr_search {a : Nat → Int32} {c : Nat → Nat} (hv : pv_D a) {k : Nat} (h0 : 1 ≤ k) (hk : k ≤ pL a) {F : Nat → Int} (hF0 : F 0 = 1000000000) (hF : pa_F F (k - 1)) : ∀ (n fuel lo hi : Nat) (m : zz_Mem), lo ≤ hi → hi ≤ 1000000000 → hi - lo < 2 ^ n → n < fuel → pr_K m a c k F → (lo = 0 ∨ pf_fits a c k F (lo : Int)) → (hi = 1000000000 ∨ ¬ pf_fits a c k F ((hi : Int) + 1)) →
    ∃ m' x, f_X12_solves_41 fuel (nI (pInp a k)) (nI k) (nI lo) (nI hi) m = some m' ∧ pq_fr [14] m m' ∧ m'.2 = m.2 ∧ (∀ j, j ≠ k → m'.1 14 j = m.1 14 j) ∧ m'.1 14 k = iI x ∧ pf_isG (pf_fits a c k F) x := by
  have h8 : k ≤ 8 := Nat.le_trans hk (pD_D hv).2.1
  have fin : ∀ (lo : Nat) (m : zz_Mem), lo ≤ 1000000000 → (lo = 0 ∨ pf_fits a c k F (lo : Int)) → (lo = 1000000000 ∨ ¬ pf_fits a c k F ((lo : Int) + 1)) → ∃ m' x, f_X12_solves_93 (nI k) (nI lo) m = some m' ∧ pq_fr [14] m m' ∧ m'.2 = m.2 ∧ (∀ j, j ≠ k → m'.1 14 j = m.1 14 j) ∧ m'.1 14 k = iI x ∧ pf_isG (pf_fits a c k F) x := by
    intro lo m hb h1 h2
    unfold f_X12_solves_93
    rw [pq_ixE (by omega) (by decide), nI_clamp (by omega), pq_letM]
    refine ⟨_, (lo : Int), rfl, pq_frI (pq_fr0 m) _ _ (by simp), rfl, fun j hj => qx_isN hj, ?_, pf_mkG hv h0 hk (by omega) (by omega) ?_ ?_⟩
    · rw [qx_isE, iI_nI]
    · rcases h1 with h | h
      · left; omega
      · exact Or.inr h
    · rcases h2 with h | h
      · left; omega
      · exact Or.inr h
  intro n
  induction n with
  | zero =>
    intro fuel lo hi m h1 h2 h3 h4 hK hl hh
    obtain ⟨n, rfl⟩ : ∃ n, fuel = n + 1 := ⟨fuel - 1, by omega⟩
    have e : lo = hi := by simp at h3; omega
    subst e
    rw [f_X12_solves_41, if_pos (Int32.le_refl _)]
    exact fin lo m h2 hl hh
  | succ n ih =>
    intro fuel lo hi m h1 h2 h3 h4 hK hl hh
    obtain ⟨fu, rfl⟩ : ∃ n, fuel = n + 1 := ⟨fuel - 1, by omega⟩
    by_cases e : lo = hi
    · subst e
      rw [f_X12_solves_41, if_pos (Int32.le_refl _)]
      exact fin lo m h2 hl hh
    · rw [Nat.pow_succ] at h3
      have l1 : (1 : Int32) = nI 1 := rfl
      have l2 : (2 : Int32) = nI 2 := rfl
      rw [f_X12_solves_41, if_neg (nI_ge (by omega) (by omega)), pk_sub (by omega), nI_1, l2, pk_div (by omega) (by decide) (by decide), nI_add, pq_letI, pq_ixE (by omega) (by decide), nI_clamp (by omega), pq_letM, l1]
      generalize hmid : lo + (hi - lo + 1) / 2 = mid
      have b1 : lo < mid ∧ mid ≤ hi := by omega
      have fr : pq_fr [14] m (zz_setI m 14 k (nI mid)) := pq_frI (pq_fr0 m) _ _ (by simp)
      have hK2 := pr_Kset hK (nI mid)
      have hcv : pr_cv (zz_setI m 14 k (nI mid)) a k (va_up F k (mid : Int)) := by
        obtain ⟨k1, k2, k3, k4, k5, k6⟩ := hK2
        refine ⟨k4, k5, fun j hj => ?_⟩
        by_cases c : j = k
        · rw [c, pf_up, qx_isE, iI_nI]
        · rw [pf_upn c]; exact k6 j (by omega)
      have hfit := pr_fits (c := c) hv hK2.1 hK2.2.1 hK2.2.2.1 h0 hk hF0 hF (f := (mid : Int)) (by omega) (by omega) hcv
      rw [qx_nl (by omega)]
      rcases hfit with ⟨p1, p2⟩ | ⟨p1, p2⟩
      · rw [p2, pq_bndS, if_neg (by decide)]
        obtain ⟨m', x, g1, g2, g3, g4, g5, g6⟩ := ih fu mid hi (zz_setI m 14 k (nI mid)) (by omega) h2 (by omega) (by omega) hK2 (Or.inr p1) hh
        exact ⟨m', x, g1, pq_frT fr g2, g3, fun j hj => by rw [g4 j hj, qx_isN hj], g5, g6⟩
      · rw [p2, pq_bndS, if_pos rfl, pk_sub (by omega), pq_letI]
        obtain ⟨m', x, g1, g2, g3, g4, g5, g6⟩ := ih fu lo (mid - 1) (zz_setI m 14 k (nI mid)) (by omega) (by omega) (by omega) (by omega) hK2 hl (Or.inr (by rw [show ((mid - 1 : Nat) : Int) + 1 = (mid : Int) by omega]; exact p1))
        exact ⟨m', x, g1, pq_frT fr g2, g3, fun j hj => by rw [g4 j hj, qx_isN hj], g5, g6⟩
theorem pp_pre {e s o : Nat → Nat} {k : Nat} : ∀ N, k ≤ N → (pp_pil e s o k).1 ≤ (pp_pil e s o N).1 ∧ ∀ l, l ≤ (pp_pil e s o k).1 → (pp_pil e s o N).2 l = (pp_pil e s o k).2 l := by
  intro N
  induction N with
  | zero => intro h; rw [show k = 0 by omega]; exact ⟨Nat.le_refl _, fun _ _ => rfl⟩
  | succ N ih =>
    intro h
    by_cases c : k = N + 1
    · rw [c]; exact ⟨Nat.le_refl _, fun _ _ => rfl⟩
    · obtain ⟨i1, i2⟩ := ih (by omega)
      rw [pp_pil]
      split
      · exact ⟨i1, i2⟩
      · refine ⟨Nat.le_succ_of_le i1, fun l hl => ?_⟩
        show va_up (pp_pil e s o N).2 ((pp_pil e s o N).1 + 1) (o N) l = _
        rw [va_up, if_neg (by omega)]
        exact i2 l hl
def pr_made (m : zz_Mem) (L : Nat) (inp : Nat → Nat) (x : Nat) : Prop := (∃ l, 1 ≤ l ∧ l ≤ L ∧ inp l = x ∧ m.1 16 x = 0) ∨ ((∀ l, 1 ≤ l → l ≤ L → inp l ≠ x) ∧ m.1 16 x = 1)
/-- what a solved curve of the reference is -/
def pr_solved (m : zz_Mem) (a : Nat → Int32) (c : Nat → Nat) (L : Nat) (F : Nat → Int) : Prop := pr_cv m a L F ∧ pf_FS a c F L ∧ (∀ k, 1 ≤ k → k ≤ L → m.1 15 k = nI (pInp a k)) ∧ m.1 15 0 = -1
theorem pr_solves {a : Nat → Int32} {c : Nat → Nat} (hv : pv_D a) {k : Nat} (hk : k + 1 ≤ pL a) {F : Nat → Int} {m : zz_Mem} (hm : pv_ag (m.1 1) a) (hs : pr_sched m a) (hc : pr_cnt m a c) (hS : pr_solved m a c k F) : ∃ m' F', f_X12_solves (nI (pInp a (k + 1))) m = some m' ∧ pq_fr [0, 13, 14, 15] m m' ∧ m'.2 = m.2 ∧ (∀ j, j ≠ 28 → m'.1 0 j = m.1 0 j) ∧ pr_solved m' a c (k + 1) F' := by
  obtain ⟨⟨c1, c2, c3⟩, s2, s3, s4⟩ := hS
  have h8 : k + 1 ≤ 8 := Nat.le_trans hk (pD_D hv).2.1
  have hfu : zz_fuel = 5000 := rfl
  obtain ⟨b1, b2, b3⟩ := pInp_b (a := a) (k := k + 1) (by omega) hk
  have hN := (pN_b hv).1
  unfold f_X12_solves
  rw [c1, pq_letI, nI_1, pq_letM, pq_ixE (by omega) (by decide), pq_ixE (by omega) (by decide), nI_clamp (by omega), nI_clamp (by omega), pq_letM, pq_ixE (by omega) (by decide), pq_letM]
  have e8 : (zz_setI m 0 28 (nI (k + 1 + 1))).1 8 (pInp a (k + 1)) = nI (pDay a (k + 1)) := by
    rw [pz_In _ _ _ (by decide), b3]; exact (hs.1 _ b1).2.1
  rw [e8]
  generalize hm4 : zz_setI (zz_setI (zz_setI m 0 28 (nI (k + 1 + 1))) 13 (k + 1) (nI (pDay a (k + 1)))) 15 (k + 1) (nI (pInp a (k + 1))) = m4
  have fr : pq_fr [0, 13, 14, 15] m m4 := by rw [← hm4]; exact pq_frI (pq_frI (pq_frI (pq_fr0 m) _ _ (by simp)) _ _ (by simp)) _ _ (by simp)
  have e2 : m4.2 = m.2 := by rw [← hm4]; rfl
  have r0 : ∀ j, j ≠ 28 → m4.1 0 j = m.1 0 j := fun j hj => by rw [← hm4, pz_In _ _ _ (by decide), pz_In _ _ _ (by decide), qx_isN hj]
  have r28 : m4.1 0 28 = nI (k + 1 + 1) := by rw [← hm4, pz_In _ _ _ (by decide), pz_In _ _ _ (by decide), qx_isE]
  have r13 : ∀ j, j ≤ k + 1 → m4.1 13 j = nI (pDay a j) := fun j hj => by
    rw [← hm4, pz_In _ _ _ (by decide)]
    by_cases c : j = k + 1
    · rw [c, qx_isE]
    · rw [qx_isN c, pz_In _ _ _ (by decide)]; exact c2 j (by omega)
  have r15 : ∀ j, m4.1 15 j = if j = k + 1 then nI (pInp a (k + 1)) else m.1 15 j := fun j => by
    rw [← hm4]
    split
    · rename_i c; rw [c, qx_isE]
    · rename_i c; rw [qx_isN c, pz_In _ _ _ (by decide), pz_In _ _ _ (by decide)]
  have r14 : m4.1 14 = m.1 14 := by rw [← hm4, pz_In _ _ _ (by decide), pz_In _ _ _ (by decide), pz_In _ _ _ (by decide)]
  have hK : pr_K m4 a c (k + 1) F := ⟨by rw [(fr 1 (by simp)).1]; exact hm, pr_schedF hs fr (fun j a1 a2 => by simp <;> omega), by unfold pr_cnt; rw [(fr 12 (by simp)).1]; exact hc, r28, r13, fun j hj => by rw [r14]; exact c3 j (by omega)⟩
  obtain ⟨m', x, g1, g2, g3, g4, g5, g6⟩ := pr_search (c := c) hv (by omega) hk s2.1 (F := F) (by rw [Nat.add_sub_cancel]; exact pf_FSb s2) 30 zz_fuel 0 1000000000 m4 (by omega) (by omega) (by decide) (by omega) hK (Or.inl rfl) (Or.inl rfl)
  have l0 : nI 0 = 0 := rfl
  have lu : nI 1000000000 = 1000000000 := rfl
  rw [l0, lu] at g1
  refine ⟨m', va_up F (k + 1) x, g1, pq_frT fr (pq_frW g2 (by simp)), g3.trans e2, fun j hj => by rw [(g2 0 (by simp)).1]; exact r0 j hj, ⟨?_, ?_, fun j hj => ?_⟩, ⟨?_, fun j hj0 hj => ?_⟩, fun j hj0 hj => ?_, ?_⟩
  · rw [(g2 0 (by simp)).1]; exact r28
  · rw [(g2 13 (by simp)).1]; exact r13
  · by_cases c : j = k + 1
    · rw [c, pf_up]; exact g5
    · rw [pf_upn c, g4 j c, r14]; exact c3 j (by omega)
  · rw [pf_upn (by omega)]; exact s2.1
  · have e : ∀ f, pf_fits a c j (va_up F (k + 1) x) f ↔ pf_fits a c j F f := fun f => pf_fitsC rfl (fun l hl => pf_upn (by omega)) f
    have e' : pf_fits a c j (va_up F (k + 1) x) = pf_fits a c j F := funext (fun f => propext (e f))
    rw [e']
    by_cases c : j = k + 1
    · rw [c, pf_up]; exact g6
    · rw [pf_upn c]; exact s2.2 j hj0 (by omega)
  · rw [(g2 15 (by simp)).1, r15]
    by_cases c : j = k + 1
    · rw [if_pos c, c]
    · rw [if_neg c]; exact s3 j hj0 (by omega)
  · rw [(g2 15 (by simp)).1, r15, if_neg (by omega)]; exact s4
theorem pr_pil {a : Nat → Int32} {c : Nat → Nat} (hv : pv_D a) : ∀ (r q fuel : Nat) (m : zz_Mem) (F : Nat → Int), q + r = pN a → r < fuel → pv_ag (m.1 1) a → pr_sched m a → pr_cnt m a c → pr_solved m a c (pp_pil (pE a) (pS a) (pO a) q).1 F → (∀ j, j < q → pr_made m (pp_pil (pE a) (pS a) (pO a) q).1 (pp_pil (pE a) (pS a) (pO a) q).2 (pO a j)) →
    ∃ m' F', f_X12_laysPillars_30 fuel (nI q) m = some m' ∧ pq_fr [0, 13, 14, 15, 16] m m' ∧ m'.2 = m.2 ∧ (∀ j, j ≠ 28 → m'.1 0 j = m.1 0 j) ∧ pr_solved m' a c (pL a) F' ∧ ∀ j, j < pN a → pr_made m' (pL a) (pInp a) (pO a j) := by
  have hN := (pN_b hv).1
  have hfu : zz_fuel = 5000 := rfl
  have ho := pO_I a
  intro r
  induction r with
  | zero =>
    intro q fuel m F h1 h2 hm hs hc h6 h7
    obtain ⟨n, rfl⟩ : ∃ n, fuel = n + 1 := ⟨fuel - 1, by omega⟩
    have e : q = pN a := by omega
    subst e
    have h5 : m.1 1 4 = nI (pN a) := (hm 4 (by omega)).trans (pN_b hv).2
    rw [f_X12_laysPillars_30, h5, if_pos (Int32.le_refl _)]
    exact ⟨m, F, rfl, pq_fr0 m, rfl, fun _ _ => rfl, h6, h7⟩
  | succ r ih =>
    intro q fuel m F h1 h2 hm hs hc h6 h7
    obtain ⟨n, rfl⟩ : ∃ n, fuel = n + 1 := ⟨fuel - 1, by omega⟩
    have h5 : m.1 1 4 = nI (pN a) := (hm 4 (by omega)).trans (pN_b hv).2
    have hpi := pp_pilI (s := pS a) ho q (by omega)
    have hx := ho.1 q (by omega)
    have hvi := pv_inD hv hx
    have eb := pE_b hvi
    have sb := pS_b hvi
    have hpre := pp_pre (e := pE a) (s := pS a) (o := pO a) (k := q) (pN a) (by omega)
    have hpre1 := pp_pre (e := pE a) (s := pS a) (o := pO a) (k := q + 1) (pN a) (by omega)
    have hstep : pp_pil (pE a) (pS a) (pO a) (q + 1) = if pE a (pO a q) ≤ pp_day (pE a) (pp_pil (pE a) (pS a) (pO a) q).2 (pp_pil (pE a) (pS a) (pO a) q).1 ∨ pE a (pO a q) ≤ pS a (pO a q) then pp_pil (pE a) (pS a) (pO a) q else ((pp_pil (pE a) (pS a) (pO a) q).1 + 1, va_up (pp_pil (pE a) (pS a) (pO a) q).2 ((pp_pil (pE a) (pS a) (pO a) q).1 + 1) (pO a q)) := rfl
    have ih' := ih (q + 1) n
    rw [hstep] at ih' hpre1
    generalize hp : pp_pil (pE a) (pS a) (pO a) q = p at *
    have hLq : p.1 ≤ pL a := hpre.1
    have h8 := (pD_D hv).2.1
    have hday : pp_day (pE a) p.2 p.1 = pDay a p.1 := by
      unfold pDay pp_day
      split
      · rfl
      · rw [show pInp a p.1 = p.2 p.1 from hpre.2 p.1 (Nat.le_refl _)]
    rw [hday] at ih' hpre1
    obtain ⟨i1, i2, i3, i4⟩ := hpi
    rw [hday] at i4
    have hdl := i4 q (Nat.le_refl _) (by omega)
    have l1 : (1 : Int32) = nI 1 := rfl
    have l24 : (24 : Int32) = nI 24 := rfl
    have b24 := hvi.1.2
    have e24 : m.1 1 (24 + pO a q) = nI (pK a (pO a q)) := by rw [hm _ (by omega)]; exact hvi.1.1
    have un : (pE a (pO a q) ≤ pDay a p.1 ∨ pE a (pO a q) ≤ pS a (pO a q)) → ∃ m' F', f_X12_laysPillars_105 (f_X12_laysPillars_30 n) (nI q) (nI (pO a q)) 1 (nI (pO a q)) m = some m' ∧ pq_fr [0, 13, 14, 15, 16] m m' ∧ m'.2 = m.2 ∧ (∀ j, j ≠ 28 → m'.1 0 j = m.1 0 j) ∧ pr_solved m' a c (pL a) F' ∧ ∀ j, j < pN a → pr_made m' (pL a) (pInp a) (pO a j) := by
      intro hcond
      rw [if_pos hcond] at ih'
      unfold f_X12_laysPillars_105
      have eb1 : vp_nar .boolean (1 : Int32) = 1 := by decide
      rw [pq_ixE (by omega) (by decide), nI_clamp (by omega), pq_letM, pq_ixE (by omega) (by decide), eb1, qx_isE, if_neg (by decide), pq_letI, nI_1]
      have fr : pq_fr [0, 13, 14, 15, 16] m (zz_setI m 16 (pO a q) 1) := pq_frI (pq_fr0 m) _ _ (by simp)
      have fr' : pq_fr [16] m (zz_setI m 16 (pO a q) 1) := pq_frI (pq_fr0 m) _ _ (by simp)
      obtain ⟨m', F', g1, g2, g3, g4, g5, g6⟩ := ih' (zz_setI m 16 (pO a q) 1) F (by omega) (by omega) (by rw [(fr 1 (by simp)).1]; exact hm) (pr_schedF hs fr (fun j a1 a2 => by simp <;> omega)) (by unfold pr_cnt; rw [(fr 12 (by simp)).1]; exact hc) (by
          unfold pr_solved pr_cv
          rw [(fr' 0 (by simp)).1, (fr' 13 (by simp)).1, (fr' 14 (by simp)).1, (fr' 15 (by simp)).1]
          exact h6) (fun j hj => by
          by_cases c : j = q
          · right
            rw [c]
            refine ⟨fun l a1 a2 => ?_, qx_isE⟩
            obtain ⟨-, -, j', b3, b4⟩ := i2 l a1 a2
            rw [← b4]
            exact (ho.2.1 j' q b3 (by omega)).2
          · have hne : pO a j ≠ pO a q := (ho.2.1 j q (by omega) (by omega)).2
            unfold pr_made
            rw [qx_isN hne]
            exact h7 j (by omega))
      exact ⟨m', F', g1, pq_frT fr g2, g3, fun j hj => by rw [g4 j hj, (fr' 0 (by simp)).1], g5, g6⟩
    have met : ¬ (pE a (pO a q) ≤ pDay a p.1 ∨ pE a (pO a q) ≤ pS a (pO a q)) → ∃ m' F', f_X12_laysPillars_105 (f_X12_laysPillars_30 n) (nI q) (nI (pO a q)) 0 (nI (pO a q)) m = some m' ∧ pq_fr [0, 13, 14, 15, 16] m m' ∧ m'.2 = m.2 ∧ (∀ j, j ≠ 28 → m'.1 0 j = m.1 0 j) ∧ pr_solved m' a c (pL a) F' ∧ ∀ j, j < pN a → pr_made m' (pL a) (pInp a) (pO a j) := by
      intro hcond
      rw [if_neg hcond] at ih' hpre1
      have hL1 : p.1 + 1 ≤ pL a := hpre1.1
      have hinp : pInp a (p.1 + 1) = pO a q := by
        have := hpre1.2 (p.1 + 1) (Nat.le_refl _)
        rw [show pInp a (p.1 + 1) = (pp_pil (pE a) (pS a) (pO a) (pN a)).2 (p.1 + 1) from rfl, this]
        show va_up p.2 (p.1 + 1) (pO a q) (p.1 + 1) = _
        rw [va_up, if_pos rfl]
      unfold f_X12_laysPillars_105
      have eb0 : vp_nar .boolean (0 : Int32) = 0 := by decide
      rw [pq_ixE (by omega) (by decide), nI_clamp (by omega), pq_letM, pq_ixE (by omega) (by decide), eb0, qx_isE, if_pos rfl]
      have fr : pq_fr [0, 13, 14, 15, 16] m (zz_setI m 16 (pO a q) 0) := pq_frI (pq_fr0 m) _ _ (by simp)
      have fr' : pq_fr [16] m (zz_setI m 16 (pO a q) 0) := pq_frI (pq_fr0 m) _ _ (by simp)
      obtain ⟨m2, F2, e2, f2, z2, y2, s2⟩ := pr_solves (c := c) hv hL1 (F := F) (m := zz_setI m 16 (pO a q) 0) (by rw [(fr 1 (by simp)).1]; exact hm) (pr_schedF hs fr (fun j a1 a2 => by simp <;> omega)) (by unfold pr_cnt; rw [(fr 12 (by simp)).1]; exact hc) (by
          unfold pr_solved pr_cv
          rw [(fr' 0 (by simp)).1, (fr' 13 (by simp)).1, (fr' 14 (by simp)).1, (fr' 15 (by simp)).1]
          exact h6)
      rw [hinp] at e2
      rw [e2, pq_bndS, pq_letI, nI_1]
      have fr2 : pq_fr [0, 13, 14, 15, 16] m m2 := pq_frT fr (pq_frW f2 (by simp <;> omega))
      have r16 : m2.1 16 = (zz_setI m 16 (pO a q) 0).1 16 := (f2 16 (by simp)).1
      obtain ⟨m', F', g1, g2, g3, g4, g5, g6⟩ := ih' m2 F2 (by omega) (by omega) (by rw [(fr2 1 (by simp)).1]; exact hm) (pr_schedF hs fr2 (fun j a1 a2 => by simp <;> omega)) (by unfold pr_cnt; rw [(fr2 12 (by simp)).1]; exact hc) s2 (fun j hj => by
          by_cases c : j = q
          · left
            refine ⟨p.1 + 1, by omega, Nat.le_refl _, ?_, ?_⟩
            · show va_up p.2 (p.1 + 1) (pO a q) (p.1 + 1) = _; rw [va_up, if_pos rfl, c]
            · rw [r16, c, qx_isE]
          · have hne : pO a j ≠ pO a q := (ho.2.1 j q (by omega) (by omega)).2
            rcases h7 j (by omega) with ⟨l, a1, a2, a3, a4⟩ | ⟨a1, a2⟩
            · left
              refine ⟨l, a1, by show l ≤ p.1 + 1; omega, ?_, ?_⟩
              · show va_up p.2 (p.1 + 1) (pO a q) l = _; rw [va_up, if_neg (by omega)]; exact a3
              · rw [r16, qx_isN hne]; exact a4
            · right
              refine ⟨fun l b1 b2 => ?_, ?_⟩
              · show va_up p.2 (p.1 + 1) (pO a q) l ≠ _
                have b2' : l ≤ p.1 + 1 := b2
                by_cases c3 : l = p.1 + 1
                · rw [va_up, if_pos c3]; exact fun z => hne z.symm
                · rw [va_up, if_neg c3]; exact a1 l b1 (by omega)
              · rw [r16, qx_isN hne]; exact a2)
      exact ⟨m', F', g1, pq_frT fr2 g2, g3.trans z2, fun j hj => by rw [g4 j hj, y2 j hj, (fr' 0 (by simp)).1], g5, g6⟩
    obtain ⟨⟨c1, c2, c3⟩, -, -, -⟩ := h6
    rw [f_X12_laysPillars_30, h5, if_neg (nI_ge (by omega) (by omega)), pq_ixE (by omega) (by decide), nI_clamp (by omega), hs.2 q (by omega), pq_letI, c1, nI_pred, pq_ixE (by omega) (by decide), pq_ixE (by omega) (by decide), nI_clamp (by omega), nI_clamp (by omega), c2 p.1 (Nat.le_refl _), (hs.1 _ hx).2.1, (hs.1 _ hx).1]
    by_cases d1 : pDay a p.1 = pE a (pO a q)
    · rw [if_pos (by rw [d1])]
      exact un (Or.inl (by omega))
    · rw [if_neg (by rw [nI_eq (by omega) (by omega)]; exact d1), l24, nI_add, pq_ixE (by omega) (by decide), nI_clamp (by omega), e24]
      by_cases d2 : pK a (pO a q) = 1
      · rw [if_pos (by rw [d2]; rfl), pq_ixE (by omega) (by decide), pq_ixE (by omega) (by decide)]
        by_cases d3 : pS a (pO a q) < pE a (pO a q)
        · rw [if_pos (nI_lt d3 (by omega))]
          exact met (fun z => by omega)
        · rw [if_neg (nI_nlt (by omega) (by omega))]
          exact un (Or.inr (by omega))
      · rw [if_neg (by rw [l1, nI_eq (by unfold pK; omega) (by decide)]; exact d2)]
        have es : pS a (pO a q) = 0 := by unfold pS; rw [if_neg d2]
        exact met (fun z => by omega)
theorem pr_laysPillars {a : Nat → Int32} {c : Nat → Nat} (hv : pv_D a) {m : zz_Mem} (hm : pv_ag (m.1 1) a) (hs : pr_sched m a) (hc : pr_cnt m a c) : ∃ m' F, f_X12_laysPillars m = some m' ∧ pq_fr [0, 13, 14, 15, 16] m m' ∧ m'.2 = m.2 ∧ (∀ j, j ≠ 28 → m'.1 0 j = m.1 0 j) ∧ pr_solved m' a c (pL a) F ∧ ∀ x, x < pN a → pr_made m' (pL a) (pInp a) x := by
  have hN := (pN_b hv).1
  have hfu : zz_fuel = 5000 := rfl
  unfold f_X12_laysPillars
  rw [pq_letM, pq_letM, pq_letM, pq_letM]
  generalize hm4 : zz_setI (zz_setI (zz_setI (zz_setI m 0 28 1) 13 0 0) 14 0 1000000000) 15 0 (-1) = m4
  have fr : pq_fr [0, 13, 14, 15, 16] m m4 := by rw [← hm4]; exact pq_frI (pq_frI (pq_frI (pq_frI (pq_fr0 m) _ _ (by simp)) _ _ (by simp)) _ _ (by simp)) _ _ (by simp)
  have e2 : m4.2 = m.2 := by rw [← hm4]; rfl
  have r0 : ∀ j, j ≠ 28 → m4.1 0 j = m.1 0 j := fun j hj => by rw [← hm4, pz_In _ _ _ (by decide), pz_In _ _ _ (by decide), pz_In _ _ _ (by decide), qx_isN hj]
  obtain ⟨m', F', g1, g2, g3, g4, g5, g6⟩ := pr_pil (c := c) hv (pN a) 0 zz_fuel m4 (fun _ => 1000000000) (by omega) (by omega) (by rw [(fr 1 (by simp)).1]; exact hm) (pr_schedF hs fr (fun j a1 a2 => by simp <;> omega)) (by unfold pr_cnt; rw [(fr 12 (by simp)).1]; exact hc) (by
      refine ⟨⟨?_, fun j hj => ?_, fun j hj => ?_⟩, ⟨rfl, fun k h0 hk => ?_⟩, fun k h0 hk => ?_, ?_⟩
      · rw [← hm4, pz_In _ _ _ (by decide), pz_In _ _ _ (by decide), pz_In _ _ _ (by decide), qx_isE]; rfl
      · have hj' : j ≤ 0 := hj
        rw [show j = 0 by omega, ← hm4, pz_In _ _ _ (by decide), pz_In _ _ _ (by decide), qx_isE]; rfl
      · have hj' : j ≤ 0 := hj
        rw [show j = 0 by omega, ← hm4, pz_In _ _ _ (by decide), qx_isE]; rfl
      · have hk' : k ≤ 0 := hk
        omega
      · have hk' : k ≤ 0 := hk
        omega
      · rw [← hm4, qx_isE]) (fun j hj => absurd hj (Nat.not_lt_zero _))
  rw [nI_0] at g1
  refine ⟨m', F', g1, pq_frT fr g2, g3.trans e2, fun j hj => by rw [g4 j hj, r0 j hj], g5, fun x hx => ?_⟩
  obtain ⟨j, j1, j2⟩ := (pO_I a).2.2 x hx
  rw [← j2]
  exact g6 j j1
