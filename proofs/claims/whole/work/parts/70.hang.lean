/-! ===== 70: how the book hangs, how it is made flat ===== -/
def pWt (a : Nat → Int32) (k d : Nat) : Nat :=
  if pa_at (pDay a) d (pL a) = pL a ∨ pCv a = true then (if k = pa_at (pDay a) d (pL a) then 1000 else 0)
  else if k = pa_at (pDay a) d (pL a) + 1 then (d - pDay a (pa_at (pDay a) d (pL a))) * 1000 / (pDay a (pa_at (pDay a) d (pL a) + 1) - pDay a (pa_at (pDay a) d (pL a)))
  else if k = pa_at (pDay a) d (pL a) then 1000 - (d - pDay a (pa_at (pDay a) d (pL a))) * 1000 / (pDay a (pa_at (pDay a) d (pL a) + 1) - pDay a (pa_at (pDay a) d (pL a)))
  else 0
theorem pWt_l {d x y : Nat} (h1 : x ≤ d) (h2 : d < y) : (d - x) * 1000 / (y - x) < 1000 := by
  rw [Nat.div_lt_iff_lt_mul (by omega)]
  omega
theorem pWt_b (a : Nat → Int32) (hv : pv_D a) (k d : Nat) : pWt a k d ≤ 1000 := by
  unfold pWt
  obtain ⟨c1, c2⟩ := pa_atC (pDay a) d (pD_D hv).1 (pL a)
  have c0 := pa_atL (pDay a) d (pL a)
  generalize pa_at (pDay a) d (pL a) = t at *
  split
  · split <;> omega
  · rename_i hn
    have : ¬ t = pL a := fun e => hn (Or.inl e)
    have := pWt_l c1 (c2 (t + 1) (by omega) (by omega))
    split
    · omega
    · split
      · exact Nat.sub_le _ _
      · omega
theorem pc_wt {a : Nat → Int32} (hv : pv_D a) {m : zz_Mem} (hp : pc_plan m 2 a) (hs : pc_sched m a) {k d : Nat} (hk : k ≤ pL a) (hd : d < 20000) : f_X8_weight m (nI k) (nI d) = some (nI (pWt a k d)) := by
  have hD := pD_D hv
  have hL8 := hD.2.1
  have hAt := pa_cPillarAt hD hd hs.2.1.1 hs.2.1.2.1
  obtain ⟨c1, c2⟩ := pa_atC (pDay a) d hD.1 (pL a)
  have c0 := pa_atL (pDay a) d (pL a)
  have hcv : m.1 2 1 = if pCv a then 1 else 0 := hp.2.1.trans (pCv_eq hv)
  have l0 : (0 : Int32) = nI 0 := rfl
  have l1 : (1 : Int32) = nI 1 := rfl
  have l1000 : (1000 : Int32) = nI 1000 := rfl
  have fin : ∀ t, t ≤ pL a → f_X8_weight_63 m (nI k) (nI t) = some (nI (if k = t then 1000 else 0)) := by
    intro t ht
    unfold f_X8_weight_63
    by_cases e : k = t
    · rw [if_pos (by rw [e]), if_pos e]; rfl
    · rw [if_neg (by rw [nI_eq (by omega) (by omega)]; exact e), if_neg e]; rfl
  unfold f_X8_weight pWt
  rw [hAt, pq_bndS, hs.2.1.1]
  generalize pa_at (pDay a) d (pL a) = t at *
  by_cases e : t = pL a
  · rw [if_pos (nI_1 t ▸ nI_le (by omega) (by omega)), if_pos (Or.inl e)]
    unfold f_X8_weight_35
    rw [if_pos (by decide)]
    exact fin t c0
  · have i1 := hD.2.2.2 t (by omega)
    have i2 := hD.2.2.1 (t + 1) (by omega)
    have i3 := c2 (t + 1) (by omega) (by omega)
    rw [nI_1, if_neg (nI_ge (by omega) (by omega)), pq_ixE (by omega) (by decide), pq_ixE (by omega) (by decide), nI_clamp (by omega), nI_clamp (by omega), show m.1 79 (t + 1) = nI (pDay a (t + 1)) from hs.2.1.2.1 (t + 1) (by omega), show m.1 79 t = nI (pDay a t) from hs.2.1.2.1 t (by omega), pk_sub (by omega)]
    unfold f_X8_weight_35
    rw [if_neg (nI_nle (by omega) (by omega)), hcv]
    cases hc : pCv a with
    | true => rw [if_pos (show (if true = true then (1 : Int32) else 0) = 1 by decide), if_pos (Or.inr rfl)]; exact fin t c0
    | false =>
      rw [if_neg (show ¬ (if false = true then (1 : Int32) else 0) = 1 by decide), if_neg (show ¬ (t = pL a ∨ false = true) from fun z => z.elim e (fun q => by cases q)), pq_ixE (by omega) (by decide), nI_clamp (by omega), show m.1 79 t = nI (pDay a t) from hs.2.1.2.1 t (by omega)]
      have hlt := pWt_l c1 i3
      by_cases e2 : d = pDay a t
      · rw [if_pos (by rw [e2]), fin t c0]
        have hz : (d - pDay a t) * 1000 / (pDay a (t + 1) - pDay a t) = 0 := by rw [e2, Nat.sub_self, Nat.zero_mul, Nat.zero_div]
        rw [hz]
        by_cases e3 : k = t
        · rw [if_pos e3, if_neg (by omega)]
        · rw [if_neg e3]
          by_cases e4 : k = t + 1
          · rw [if_pos e4]
          · rw [if_neg e4]
      · rw [if_neg (by rw [nI_eq (by omega) (by omega)]; exact e2), pq_ixE (by omega) (by decide), pq_nzE (nI_ne0 (by omega) (by omega)), pk_sub (by omega), l1000, pk_mul, pk_div (by omega) (by omega) (by omega), pq_letI, nI_1]
        by_cases e4 : k = t + 1
        · rw [if_pos (by rw [e4]), if_pos e4]
        · rw [if_neg (by rw [nI_eq (by omega) (by omega)]; exact e4), if_neg e4]
          by_cases e3 : k = t
          · rw [if_pos (by rw [e3]), if_pos e3, pk_sub (by omega)]
          · rw [if_neg (by rw [nI_eq (by omega) (by omega)]; exact e3), if_neg e3]; rfl
theorem pr_wt {a : Nat → Int32} (hv : pv_D a) {m0 m : zz_Mem} {c : Nat → Nat} (hr : pI_r m a) (h : pr_cw m0 m a c) {k d : Nat} (hk : k ≤ pL a) (hd : d < 20000) : f_X12_weightAt m (nI k) (nI d) = some (nI (pWt a k d)) := by
  have hD := pD_D hv
  have hL8 := hD.2.1
  obtain ⟨r1, r2, -⟩ := h.2.2.2.2.1.1
  have hAt := pa_rPillarAt hD hd r1 r2
  obtain ⟨c1, c2⟩ := pa_atC (pDay a) d hD.1 (pL a)
  have c0 := pa_atL (pDay a) d (pL a)
  have hcv : m.1 1 2 = if pCv a then 1 else 0 := (hr.1 2 (by omega)).trans (pCv_eq hv)
  have l1000 : (1000 : Int32) = nI 1000 := rfl
  have fin : ∀ t, t ≤ pL a → f_X12_weightAt_26 m (nI k) (nI t) = some (nI (if k = t then 1000 else 0)) := by
    intro t ht
    unfold f_X12_weightAt_26
    by_cases e : k = t
    · rw [if_pos (by rw [e]), if_pos e]; rfl
    · rw [if_neg (by rw [nI_eq (by omega) (by omega)]; exact fun z => e z.symm), if_neg e]; rfl
  unfold f_X12_weightAt pWt
  rw [hAt, pq_bndS, r1, nI_pred]
  generalize pa_at (pDay a) d (pL a) = t at *
  by_cases e : t = pL a
  · rw [if_pos (by rw [e]), if_pos (Or.inl e)]
    exact fin t c0
  · have i1 := hD.2.2.2 t (by omega)
    have i2 := hD.2.2.1 (t + 1) (by omega)
    have i3 := c2 (t + 1) (by omega) (by omega)
    rw [if_neg (by rw [nI_eq (by omega) (by omega)]; exact e), hcv]
    cases hc : pCv a with
    | true => rw [if_pos (show (if true = true then (1 : Int32) else 0) = 1 by decide), if_pos (Or.inr rfl)]; exact fin t c0
    | false =>
      have hlt := pWt_l c1 i3
      have q1 := r2 (t + 1) (by omega)
      have q2 := r2 t (by omega)
      rw [if_neg (show ¬ (if false = true then (1 : Int32) else 0) = 1 by decide), if_neg (show ¬ (t = pL a ∨ false = true) from fun z => z.elim e (fun q => by cases q)), nI_1]
      simp (disch := omega) only [qx_ix, qx_cl, q1, q2, qx_sub]
      rw [pq_nzE (nI_ne0 (by omega) (by omega)), l1000, pk_mul, pk_div (by omega) (by omega) (by omega), pq_letI]
      by_cases e3 : k = t
      · rw [if_pos (by rw [e3]), if_neg (by omega), if_pos e3, pk_sub (by omega)]
      · rw [if_neg (by rw [nI_eq (by omega) (by omega)]; exact e3)]
        by_cases e4 : k = t + 1
        · rw [if_pos (by rw [e4]), if_pos e4]
        · rw [if_neg (by rw [nI_eq (by omega) (by omega)]; exact e4), if_neg e4, if_neg e3]; rfl
/-- how the book hangs on a pillar -/
def pHs (a st : Nat → Int32) (k : Nat) : Nat → Int64
  | 0 => 0
  | n + 1 => pHs a st k n + (st (9 + n)).toInt64 * lI (pWt a k (pv_n a (56 + n)) : Int)
theorem pc_hang {a st : Nat → Int32} (hv : pv_D a) {m : zz_Mem} (h : pI_c m a st) {k : Nat} (hk : k ≤ pL a) : f_X2_bookHang m (nI k) = some (pHs a st k (pF a)) := by
  have hf := (pF_b hv).1
  have hfu : zz_fuel = 5000 := rfl
  have l10 : (10 : Int32) = nI 10 := rfl
  have h10 : m.1 2 10 = nI (pF a) := h.1.2.2.2.2.2.1.trans (pF_b hv).2
  have loop : ∀ (r n fuel : Nat), n + r = pF a → r < fuel → f_X2_bookHang_5 m fuel (nI k) (pHs a st k n) (nI n) = some (pHs a st k (pF a)) := by
    intro r
    induction r with
    | zero =>
      intro n fuel h1 h2
      obtain ⟨fu, rfl⟩ : ∃ n, fuel = n + 1 := ⟨fuel - 1, by omega⟩
      have e : n = pF a := by omega
      subst e
      rw [f_X2_bookHang_5, h10, if_pos (Int32.le_refl _)]
    | succ r ih =>
      intro n fuel h1 h2
      obtain ⟨fu, rfl⟩ : ∃ n, fuel = n + 1 := ⟨fuel - 1, by omega⟩
      have hd := pFl_b hv (show n < pF a by omega)
      have hw := pWt_b a hv k (pv_n a (56 + n))
      have e8 : m.1 8 n = nI (pv_n a (56 + n)) := (h.1.2.2.2.2.2.2.2.2.1 n (show n < pF a by omega)).trans hd.1
      have e15 : m.1 15 n = st (9 + n) := h.2.1.2.2 n (by omega)
      rw [f_X2_bookHang_5, h10, if_neg (nI_ge (by omega) (by omega)), l10, if_neg (nI_ge (by omega) (by omega)), pq_ixE (by omega) (by decide), pq_ixE (by omega) (by decide), nI_clamp (by omega), e8, pc_wt hv h.1 h.2.2.2.1 hk (by omega), pq_bndS, pq_letJ, e15, qx_nl (by omega), pq_letI, nI_1]
      exact ih (n + 1) fu (by omega) (by omega)
  have := loop (pF a) 0 zz_fuel (by omega) (by omega)
  rw [nI_0] at this
  exact this
theorem pr_hang {a : Nat → Int32} (hv : pv_D a) {m0 m : zz_Mem} {c : Nat → Nat} (hr : pI_r m a) (h : pr_cw m0 m a c) {k : Nat} (hk : k ≤ pL a) : f_X12_hangOf m (nI k) = some (pHs a (pr_st m) k (pF a)) := by
  have hf := (pF_b hv).1
  have hfu : zz_fuel = 5000 := rfl
  have l75 : (75 : Int32) = nI 75 := rfl
  have l56 : (56 : Int32) = nI 56 := rfl
  have h5 : m.1 1 5 = nI (pF a) := (hr.1 5 (by omega)).trans (pF_b hv).2
  have loop : ∀ (r n fuel : Nat), n + r = pF a → r < fuel → f_X12_hangOf_5 m fuel (nI k) (pHs a (pr_st m) k n) (nI n) = some (pHs a (pr_st m) k (pF a)) := by
    intro r
    induction r with
    | zero =>
      intro n fuel h1 h2
      obtain ⟨fu, rfl⟩ : ∃ n, fuel = n + 1 := ⟨fuel - 1, by omega⟩
      have e : n = pF a := by omega
      subst e
      rw [f_X12_hangOf_5, h5, if_pos (Int32.le_refl _)]
    | succ r ih =>
      intro n fuel h1 h2
      obtain ⟨fu, rfl⟩ : ∃ n, fuel = n + 1 := ⟨fuel - 1, by omega⟩
      have hd := pFl_b hv (show n < pF a by omega)
      have hw := pWt_b a hv k (pv_n a (56 + n))
      have e56 : m.1 1 (56 + n) = nI (pv_n a (56 + n)) := (hr.1 _ (by omega)).trans hd.1
      have e75 : m.1 1 (75 + n) = pr_st m (9 + n) := by unfold pr_st; rw [← Nat.add_assoc]
      rw [f_X12_hangOf_5, h5, if_neg (nI_ge (by omega) (by omega)), l75, nI_add, pq_ixE (by omega) (by decide), l56, nI_add, pq_ixE (by omega) (by decide), nI_clamp (by omega), nI_clamp (by omega), e56, pr_wt hv hr h hk (by omega), pq_bndS, pq_letJ, e75, qx_nl (by omega), pq_letI, nI_1]
      exact ih (n + 1) fu (by omega) (by omega)
  have := loop (pF a) 0 zz_fuel (by omega) (by omega)
  rw [nI_0] at this
  exact this
theorem op_hang : zL_op30 pI := by
  intro n μ ν p1 ⟨a, hv, hS, hc, hr, hx⟩
  obtain ⟨k0, r0, s0⟩ := pr_t0 hr 0 (by decide) 0
  unfold f_X11_hang f_X12_hang
  rw [pq_letM]
  generalize zz_setI ν 0 0 0 = ν1 at *
  obtain ⟨ν2, e2, l2⟩ := pr_curveN hv r0
  obtain ⟨u1, u2, u3⟩ := pr_cwK l2 r0
  have fin := pI_mk hv hS hx hc (pK_c0 μ) u2 (pK_rT k0 u1)
  rw [e2, pq_bndS]
  rcases pi_pillar hv hc.2.2.2.1 l2.2.2.2.2.1.1.1 p1 with ⟨i, i1, i2, i3, i4, i5⟩ | ⟨i4, i5⟩
  · rw [i4, i5, pq_bndS, pq_bndS, if_neg (show ¬ (1 : Int32) = 0 by decide), if_neg (show ¬ (1 : Int32) = 0 by decide), i3, pc_hang hv hc i1, pr_hang hv u2 l2 i1, pq_bndS, pq_bndS, u3, s0]
    exact ⟨_, _, rfl, rfl, fin⟩
  · rw [i4, i5, pq_bndS, pq_bndS, if_pos rfl, if_pos rfl]; exact ⟨_, _, rfl, rfl, fin⟩
