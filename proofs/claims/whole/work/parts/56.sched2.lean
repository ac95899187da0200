/-! ===== 56: schedules: both laid; the pillars' days ===== -/
def pN (a : Nat → Int32) : Nat := pv_n a 4
def pp_day (e : Nat → Nat) (p : Nat → Nat) (k : Nat) : Nat := if k = 0 then 0 else e (p k)
def pp_pil (e s o : Nat → Nat) : Nat → Nat × (Nat → Nat)
  | 0 => (0, fun _ => 0)
  | k + 1 => if e (o k) ≤ pp_day e (pp_pil e s o k).2 (pp_pil e s o k).1 ∨ e (o k) ≤ s (o k) then pp_pil e s o k else ((pp_pil e s o k).1 + 1, va_up (pp_pil e s o k).2 ((pp_pil e s o k).1 + 1) (o k))
def pp_I (e s o : Nat → Nat) (I k : Nat) (p : Nat × (Nat → Nat)) : Prop := p.1 ≤ k ∧ (∀ l, 1 ≤ l → l ≤ p.1 → p.2 l < I ∧ s (p.2 l) < e (p.2 l) ∧ ∃ j, j < k ∧ o j = p.2 l) ∧ (∀ l, l < p.1 → pp_day e p.2 l < pp_day e p.2 (l + 1)) ∧ ∀ j, k ≤ j → j < I → pp_day e p.2 p.1 ≤ e (o j)
theorem pp_dayU {e p : Nat → Nat} {L x k : Nat} (h : k ≤ L) : pp_day e (va_up p (L + 1) x) k = pp_day e p k := by
  unfold pp_day va_up
  split
  · rfl
  · rw [if_neg (by omega)]
theorem pp_dayN {e p : Nat → Nat} {L x : Nat} : pp_day e (va_up p (L + 1) x) (L + 1) = e x := by
  unfold pp_day va_up
  rw [if_neg (by omega), if_pos rfl]
theorem pp_pilI {e s o : Nat → Nat} {I : Nat} (ho : po_I e I o) : ∀ k, k ≤ I → pp_I e s o I k (pp_pil e s o k) := by
  intro k
  induction k with
  | zero => exact fun _ => ⟨Nat.le_refl _, fun l h1 h2 => absurd h2 (by show ¬ l ≤ 0; omega), fun l h => absurd h (Nat.not_lt_zero _), fun j _ _ => Nat.zero_le _⟩
  | succ k ih =>
    intro hk
    obtain ⟨h1, h2, h3, h4⟩ := ih (by omega)
    rw [pp_pil]
    generalize pp_pil e s o k = p at *
    split
    · refine ⟨by omega, fun l a1 a2 => ?_, h3, fun j a1 a2 => h4 j (by omega) a2⟩
      obtain ⟨b1, b2, j, b3, b4⟩ := h2 l a1 a2
      exact ⟨b1, b2, j, by omega, b4⟩
    · rename_i hc
      have c1 : pp_day e p.2 p.1 < e (o k) := Nat.lt_of_not_le (fun z => hc (Or.inl z))
      have c2 : s (o k) < e (o k) := Nat.lt_of_not_le (fun z => hc (Or.inr z))
      refine ⟨by show p.1 + 1 ≤ k + 1; omega, fun l a1 a2 => ?_, fun l a1 => ?_, fun j a1 a2 => ?_⟩
      · show va_up p.2 (p.1 + 1) (o k) l < I ∧ s (va_up p.2 (p.1 + 1) (o k) l) < e (va_up p.2 (p.1 + 1) (o k) l) ∧ ∃ j, j < k + 1 ∧ o j = va_up p.2 (p.1 + 1) (o k) l
        by_cases c : l = p.1 + 1
        · rw [va_up, if_pos c]
          exact ⟨ho.1 k (by omega), c2, k, by omega, rfl⟩
        · rw [va_up, if_neg c]
          have a2' : l ≤ p.1 + 1 := a2
          obtain ⟨b1, b2, j, b3, b4⟩ := h2 l a1 (by omega)
          exact ⟨b1, b2, j, by omega, b4⟩
      · show pp_day e (va_up p.2 (p.1 + 1) (o k)) l < pp_day e (va_up p.2 (p.1 + 1) (o k)) (l + 1)
        have a1' : l < p.1 + 1 := a1
        by_cases c : l = p.1
        · rw [c, pp_dayU (Nat.le_refl _), pp_dayN]; exact c1
        · rw [pp_dayU (by omega), pp_dayU (by omega)]; exact h3 l (by omega)
      · show pp_day e (va_up p.2 (p.1 + 1) (o k)) (p.1 + 1) ≤ e (o j)
        rw [pp_dayN]
        exact (ho.2.1 k j (by omega) a2).1
def pO (a : Nat → Int32) : Nat → Nat := po_ord (pE a) (pN a)
def pPil (a : Nat → Int32) : Nat × (Nat → Nat) := pp_pil (pE a) (pS a) (pO a) (pN a)
def pL (a : Nat → Int32) : Nat := (pPil a).1
def pInp (a : Nat → Int32) : Nat → Nat := (pPil a).2
def pDay (a : Nat → Int32) (k : Nat) : Nat := pp_day (pE a) (pInp a) k
theorem pO_I (a : Nat → Int32) : po_I (pE a) (pN a) (pO a) := po_ordI _ _
theorem pPil_I (a : Nat → Int32) : pp_I (pE a) (pS a) (pO a) (pN a) (pN a) (pPil a) := pp_pilI (pO_I a) _ (Nat.le_refl _)
theorem pN_b {a : Nat → Int32} (hv : pv_D a) : pN a ≤ 8 ∧ a 4 = nI (pN a) := ⟨hv.2.2.2.2.1.2, hv.2.2.2.2.1.1⟩
theorem pv_inD {a : Nat → Int32} (hv : pv_D a) {i : Nat} (h : i < pN a) : pv_in a i := hv.2.2.2.2.2.2.2.2.1 i h
theorem pD_D {a : Nat → Int32} (hv : pv_D a) : pa_D (pDay a) (pL a) := by
  obtain ⟨h1, h2, h3, h4⟩ := pPil_I a
  have := (pN_b hv).1
  refine ⟨rfl, Nat.le_trans h1 this, fun k hk => ?_, h3⟩
  unfold pDay pp_day
  split
  · omega
  · have := (pE_b (pv_inD hv (h2 k (by omega) hk).1)).2
    have e : pInp a k = (pPil a).2 k := rfl
    rw [e]; omega
theorem pDay_b {a : Nat → Int32} (hv : pv_D a) {k : Nat} (hk : k ≤ pL a) : pDay a k ≤ 1029 := by
  obtain ⟨h1, h2, h3, h4⟩ := pPil_I a
  unfold pDay pp_day
  split
  · omega
  · have := (pE_b (pv_inD hv (h2 k (by omega) hk).1)).2
    have e : pInp a k = (pPil a).2 k := rfl
    rw [e]; omega
theorem pInp_b {a : Nat → Int32} {k : Nat} (h0 : 1 ≤ k) (hk : k ≤ pL a) : pInp a k < pN a ∧ pS a (pInp a k) < pE a (pInp a k) ∧ pDay a k = pE a (pInp a k) := by
  obtain ⟨h1, h2, h3, h4⟩ := pPil_I a
  obtain ⟨b1, b2, -⟩ := h2 k h0 hk
  refine ⟨b1, b2, ?_⟩
  unfold pDay pp_day
  rw [if_neg (by omega)]
theorem pa_mono {day : Nat → Nat} {L : Nat} (h : ∀ k, k < L → day k < day (k + 1)) : ∀ j k, j < k → k ≤ L → day j < day k := by
  intro j k
  induction k with
  | zero => intro h1; omega
  | succ k ih =>
    intro h1 h2
    have := h k (by omega)
    by_cases c : j = k
    · rw [c]; exact this
    · have := ih (by omega) (by omega); omega
theorem pInp_inj {a : Nat → Int32} {j k : Nat} (h0 : 1 ≤ j) (hjk : j < k) (hk : k ≤ pL a) : pInp a j ≠ pInp a k := by
  intro e
  have h3 := (pPil_I a).2.2.1
  have h := pa_mono (day := pp_day (pE a) (pPil a).2) h3 j k hjk hk
  unfold pp_day at h
  rw [if_neg (by omega), if_neg (by omega)] at h
  have e' : (pPil a).2 j = (pPil a).2 k := e
  rw [e'] at h
  exact absurd h (Nat.lt_irrefl _)
/-- what the class has laid -/
def pc_row (m : zz_Mem) (a : Nat → Int32) (i : Nat) : Prop := m.1 73 i = nI (pS a i) ∧ m.1 74 i = nI (pE a i) ∧ m.1 75 i = nI (pM a i) ∧ ∀ k, k < pM a i → m.1 76 (i * 34 + k) = nI (pP a i k)
def pc_made (m : zz_Mem) (L : Nat) (inp : Nat → Nat) (x : Nat) : Prop := (∃ l, 1 ≤ l ∧ l ≤ L ∧ inp l = x ∧ m.1 77 x = nI l) ∨ ((∀ l, 1 ≤ l → l ≤ L → inp l ≠ x) ∧ m.1 77 x = -1)
def pc_pils (m : zz_Mem) (e : Nat → Nat) (L : Nat) (inp : Nat → Nat) : Prop := m.1 72 8 = nI (L + 1) ∧ (∀ k, k ≤ L → m.1 79 k = nI (pp_day e inp k)) ∧ (∀ k, 1 ≤ k → k ≤ L → m.1 80 k = nI (inp k)) ∧ m.1 80 0 = -1
def pc_sched (m : zz_Mem) (a : Nat → Int32) : Prop := (∀ i, i < pN a → pc_row m a i) ∧ pc_pils m (pE a) (pL a) (pInp a) ∧ ∀ x, x < pN a → pc_made m (pL a) (pInp a) x
theorem pc_schedF {L : List Nat} {m m' : zz_Mem} {a : Nat → Int32} (h : pc_sched m a) (f : pq_fr L m m') (hL : ∀ j, 72 ≤ j → j ≤ 80 → j ∉ L) : pc_sched m' a := by
  have e : ∀ j, 72 ≤ j → j ≤ 80 → m'.1 j = m.1 j := fun j h1 h2 => (f j (hL j h1 h2)).1
  unfold pc_sched pc_row pc_pils pc_made
  rw [e 72 (by omega) (by omega), e 73 (by omega) (by omega), e 74 (by omega) (by omega), e 75 (by omega) (by omega), e 76 (by omega) (by omega), e 77 (by omega) (by omega), e 79 (by omega) (by omega), e 80 (by omega) (by omega)]
  exact h
theorem pc_per {a : Nat → Int32} (hv : pv_D a) {i : Nat} (hi : i < 8) (h : pv_in a i) (hk : pK a i = 2) : ∀ (r k fuel : Nat) (m : zz_Mem), k + r = pQ a i + 1 → r < fuel → pc_plan m 2 a → i < pN a → pc_known m a → (∀ j, j < k → m.1 76 (i * 34 + j) = nI (pP a i j)) →
    ∃ m', f_X8_layPeriods_49 fuel (nI i) (nI (pv_n a (48 + i))) (nI (pQ a i + 1)) (nI k) m = some m' ∧ pq_fr [11, 12, 82, 76] m m' ∧ pc_known m' a ∧ (∀ j, j ≤ pQ a i → m'.1 76 (i * 34 + j) = nI (pP a i j)) ∧ ∀ j, j < i * 34 → m'.1 76 j = m.1 76 j := by
  obtain ⟨b1, b2, b3, b4, b5, b6, b7⟩ := pQ_b h hk
  have l34 : (34 : Int32) = nI 34 := rfl
  have l1 : (1 : Int32) = nI 1 := rfl
  intro r
  induction r with
  | zero =>
    intro k fuel m h1 h2 hp hN hkn hj
    obtain ⟨n, rfl⟩ : ∃ n, fuel = n + 1 := ⟨fuel - 1, by omega⟩
    rw [f_X8_layPeriods_49, if_pos (nI_le (by omega) (by omega))]
    exact ⟨m, rfl, pq_fr0 m, hkn, fun j hj' => hj j (by omega), fun _ _ => rfl⟩
  | succ r ih =>
    intro k fuel m h1 h2 hp hN hkn hj
    obtain ⟨n, rfl⟩ : ∃ n, fuel = n + 1 := ⟨fuel - 1, by omega⟩
    have pin := pP_in h hk (show k ≤ pQ a i by omega)
    have e6 : m.1 6 i = nI (pv_n a (40 + i)) := by
      have := (hp.2.2.2.2.2.2.2.1 i hN).2.2.1
      rw [show m.1 6 i = a (40 + i) from this]; exact h.2.2.1.1
    obtain ⟨m1, e1, f1, k1⟩ := pc_putOff (d := pFst a i + k * pv_n a (48 + i)) (by omega) hv hp hkn
    have r76 : m1.1 76 = m.1 76 := (f1 76 (by simp)).1
    have hsub : (pQ a i - k) * pv_n a (48 + i) = pQ a i * pv_n a (48 + i) - k * pv_n a (48 + i) := Nat.sub_mul _ _ _
    have hle : k * pv_n a (48 + i) ≤ pQ a i * pv_n a (48 + i) := Nat.mul_le_mul_right _ (by omega)
    rw [f_X8_layPeriods_49, if_neg (nI_ge (by omega) (by omega)), pq_ixE (by omega) (by decide), nI_clamp (by omega), e6, nI_pred, pk_sub (by omega), pk_mul, hsub, pk_sub (by omega), show pv_n a (40 + i) - (pQ a i * pv_n a (48 + i) - k * pv_n a (48 + i)) = pFst a i + k * pv_n a (48 + i) by omega, e1, pq_bnd2, l34, pk_mul, nI_add, pq_ixE (by omega) (by decide), nI_clamp (by omega), pq_letM, pq_letI, nI_1]
    have fr : pq_fr [11, 12, 82, 76] m (zz_setI m1 76 (i * 34 + k) (nI (pd_off a (pFst a i + k * pv_n a (48 + i))))) := pq_frI (pq_frW f1 (by simp <;> omega)) _ _ (by simp)
    obtain ⟨m', g1, g2, g3, g4, g5⟩ := ih (k + 1) n (zz_setI m1 76 (i * 34 + k) (nI (pd_off a (pFst a i + k * pv_n a (48 + i))))) (by omega) (by omega) (pc_planF hp fr (fun j hj => by simp <;> omega)) hN (by unfold pc_known; rw [pz_In _ _ _ (by decide)]; exact k1) (fun j hj' => by
      by_cases c : j = k
      · rw [c, qx_isE]; rfl
      · rw [qx_isN (by omega), r76]; exact hj j (by omega))
    refine ⟨m', g1, pq_frT fr g2, g3, g4, fun j hj' => ?_⟩
    rw [g5 j hj', qx_isN (by omega), r76]
theorem pc_periods {a : Nat → Int32} (hv : pv_D a) {i : Nat} (hN : i < pN a) {m : zz_Mem} (hp : pc_plan m 2 a) (hkn : pc_known m a) : ∃ m', f_X8_layPeriods (nI i) m = some m' ∧ pq_fr [11, 12, 82, 75, 76] m m' ∧ pc_known m' a ∧ m'.1 75 i = nI (pM a i) ∧ (∀ k, k < pM a i → m'.1 76 (i * 34 + k) = nI (pP a i k)) ∧ (∀ j, j ≠ i → m'.1 75 j = m.1 75 j) ∧ ∀ j, j < i * 34 → m'.1 76 j = m.1 76 j := by
  have hfu : zz_fuel = 5000 := rfl
  have hi : i < 8 := Nat.lt_of_lt_of_le hN (pN_b hv).1
  have h := pv_inD hv hN
  have h48 := h.2.2.2.1
  have h40 := h.2.2.1
  have e7 : m.1 7 i = nI (pv_n a (48 + i)) := by
    have := (hp.2.2.2.2.2.2.2.1 i hN).2.2.2
    rw [show m.1 7 i = a (48 + i) from this]; exact h48.1
  have e6 : m.1 6 i = nI (pv_n a (40 + i)) := by
    have := (hp.2.2.2.2.2.2.2.1 i hN).2.2.1
    rw [show m.1 6 i = a (40 + i) from this]; exact h40.1
  unfold f_X8_layPeriods
  rw [pq_ixE (by omega) (by decide), nI_clamp (by omega), e7, pq_letI]
  by_cases hk : pK a i = 2
  · obtain ⟨b1, b2, b3, b4, b5, b6, b7⟩ := pQ_b h hk
    have l1 : (1 : Int32) = nI 1 := rfl
    have l34 : (34 : Int32) = nI 34 := rfl
    have hmin : f_J9_min_7cf53 (34 : Int32) ((m.1 6 i - 1) / nI (pv_n a (48 + i)) + 1) = some (nI (pQ a i + 1)) := by
      rw [e6, l1, pk_sub (by omega), pk_div (by omega) (by omega) (by omega), nI_add, l34]
      unfold f_J9_min_7cf53
      show (if nI (pQ a i + 1) < nI 34 then _ else _) = some (nI (pQ a i + 1))
      by_cases c : pQ a i + 1 < 34
      · rw [if_pos (nI_lt c (by omega))]; rfl
      · rw [if_neg (nI_nlt (by omega) (by omega)), show 34 = pQ a i + 1 by omega]
    rw [if_neg (nI_nle (by omega) (by omega)), pq_ixE (by omega) (by decide), pq_nzE (nI_ne0 (by omega) (by omega)), hmin, pq_bndS]
    unfold f_X8_layPeriods_38
    rw [pq_ixE (by omega) (by decide), nI_clamp (by omega), pq_letM]
    have fr : pq_fr [11, 12, 82, 75, 76] m (zz_setI m 75 i (nI (pQ a i + 1))) := pq_frI (pq_fr0 m) _ _ (by simp)
    obtain ⟨m', g1, g2, g3, g4, g5⟩ := pc_per hv hi h hk (pQ a i + 1) 0 zz_fuel (zz_setI m 75 i (nI (pQ a i + 1))) (by omega) (by omega) (pc_planF hp fr (fun j hj => by simp <;> omega)) hN (by unfold pc_known; rw [pz_In _ _ _ (by decide)]; exact hkn) (fun j hj => absurd hj (Nat.not_lt_zero _))
    rw [nI_0] at g1
    have r75 : m'.1 75 = (zz_setI m 75 i (nI (pQ a i + 1))).1 75 := (g2 75 (by simp)).1
    have eM : pM a i = pQ a i + 1 := by unfold pM; rw [if_pos hk]
    refine ⟨m', g1, pq_frT fr (pq_frW g2 (by simp <;> omega)), g3, ?_, ?_, ?_, ?_⟩
    · rw [r75, qx_isE, eM]
    · intro k hk'; exact g4 k (by omega)
    · intro j hj; rw [r75, qx_isN hj]
    · intro j hj; rw [g5 j hj, pz_In _ _ _ (by decide)]
  · have e0 : pv_n a (48 + i) = 0 := h.2.2.2.2.2.2.1 hk
    have eM : pM a i = 0 := by unfold pM; rw [if_neg hk]
    rw [e0, if_pos (by decide)]
    unfold f_X8_layPeriods_38
    rw [pq_ixE (by omega) (by decide), nI_clamp (by omega), pq_letM]
    have hf : zz_fuel = 4999 + 1 := rfl
    rw [hf, f_X8_layPeriods_49, if_pos (Int32.le_refl _)]
    refine ⟨_, rfl, pq_frI (pq_fr0 m) _ _ (by simp), ?_, ?_, ?_, ?_, ?_⟩
    · unfold pc_known; rw [pz_In _ _ _ (by decide)]; exact hkn
    · rw [qx_isE, eM]; rfl
    · intro k hk'; omega
    · intro j hj; rw [qx_isN hj]
    · intro j hj; rw [pz_In _ _ _ (by decide)]
theorem pc_fill : ∀ (r k fuel : Nat) (m : zz_Mem), k + r = 2048 → r < fuel → (∀ j, j < k → m.1 82 j = 0) → ∃ m', f_J7_fill_031fb_5 fuel 0 (nI k) 2048 m = some m' ∧ pq_fr [82] m m' ∧ ∀ j, j < 2048 → m'.1 82 j = 0 := by
  intro r
  have l : (2048 : Int32) = nI 2048 := rfl
  induction r with
  | zero =>
    intro k fuel m h1 h2 h3
    obtain ⟨n, rfl⟩ : ∃ n, fuel = n + 1 := ⟨fuel - 1, by omega⟩
    rw [f_J7_fill_031fb_5, l, if_pos (nI_le (by omega) (by omega))]
    exact ⟨m, rfl, pq_fr0 m, fun j hj => h3 j (by omega)⟩
  | succ r ih =>
    intro k fuel m h1 h2 h3
    obtain ⟨n, rfl⟩ : ∃ n, fuel = n + 1 := ⟨fuel - 1, by omega⟩
    obtain ⟨m', g1, g2, g3⟩ := ih (k + 1) n (zz_setI m 82 k (vp_nar .byte 0)) (by omega) (by omega) (fun j hj => by
      by_cases c : j = k
      · rw [c, qx_isE]; rfl
      · rw [qx_isN c]; exact h3 j (by omega))
    rw [l] at g1 ⊢
    rw [f_J7_fill_031fb_5, if_neg (nI_ge (by omega) (by omega)), pq_ixE (by omega) (by decide), nI_clamp (by omega), pq_letM, pq_letI, nI_1]
    exact ⟨m', g1, pq_frT (pq_frI (pq_fr0 m) _ _ (by simp)) g2, g3⟩
theorem pc_forget (m : zz_Mem) (a : Nat → Int32) : ∃ m', f_X0_forget m = some m' ∧ pq_fr [82] m m' ∧ pc_known m' a := by
  obtain ⟨m', g1, g2, g3⟩ := pc_fill 2048 0 zz_fuel m (by omega) (by decide) (fun j hj => absurd hj (Nat.not_lt_zero _))
  rw [nI_0] at g1
  refine ⟨m', ?_, g2, fun j hj => Or.inl (g3 j hj)⟩
  unfold f_X0_forget f_J7_fill_031fb
  rw [g1]
  rfl
theorem pc_sort {a : Nat → Int32} (hv : pv_D a) : ∀ (r i fuel : Nat) (m : zz_Mem), i + r = pN a → r < fuel → m.1 2 5 = nI (pN a) → (∀ j, j < pN a → m.1 74 j = nI (pE a j)) → (∀ j, j < i → m.1 78 j = nI (po_ord (pE a) i j)) → ∃ m', f_X8_sortByEnds_2 fuel (nI i) m = some m' ∧ pq_fr [78] m m' ∧ ∀ j, j < pN a → m'.1 78 j = nI (pO a j) := by
  have hN := (pN_b hv).1
  have hfu : zz_fuel = 5000 := rfl
  intro r
  induction r with
  | zero =>
    intro i fuel m h1 h2 h3 h4 h5
    obtain ⟨n, rfl⟩ : ∃ n, fuel = n + 1 := ⟨fuel - 1, by omega⟩
    have e : i = pN a := by omega
    subst e
    rw [f_X8_sortByEnds_2, h3, if_pos (Int32.le_refl _)]
    exact ⟨m, rfl, pq_fr0 m, h5⟩
  | succ r ih =>
    intro i fuel m h1 h2 h3 h4 h5
    obtain ⟨n, rfl⟩ : ∃ n, fuel = n + 1 := ⟨fuel - 1, by omega⟩
    rw [f_X8_sortByEnds_2, h3, if_neg (nI_ge (by omega) (by omega))]
    obtain ⟨m1, e1, f1, g1⟩ := po_c (e := pE a) (i := i) (by omega) (f_X8_sortByEnds_2 n) i zz_fuel (po_ord (pE a) i) m (Nat.le_refl _) (by omega) (fun j hj hn => h5 j (by omega)) (po_ordI (pE a) i).1 (fun j hj => ⟨h4 j (by omega), by have := (pE_b (pv_inD hv (show j < pN a by omega))).2; omega⟩)
    rw [e1]
    obtain ⟨m2, e2, f2, g2⟩ := ih (i + 1) n m1 (by omega) (by omega) (by rw [(f1 2 (by simp)).1]; exact h3) (by rw [(f1 74 (by simp)).1]; exact h4) (fun j hj => g1 j (by omega))
    exact ⟨m2, e2, pq_frT f1 f2, g2⟩
