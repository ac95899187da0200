/-! ===== 84: the day to ask for ===== -/
def pEq (x : Int32) (G : Nat → Int32) (s t : Nat) : Bool := pbit x s && pbit x t && decide (G s = G t)
def pAl (x : Int32) (G : Nat → Int32) (s : Nat) : Nat → Nat → Nat → Nat
  | 0, _, c => c
  | r + 1, t, c => pAl x G s r (t + 1) (if pEq x G s t then c + 1 else c)
def pMo (x : Int32) (G : Nat → Int32) : Nat → Nat → Nat → Nat
  | 0, _, m => m
  | r + 1, s, m => pMo x G r (s + 1) (if m < pAl x G s 10 0 0 then pAl x G s 10 0 0 else m)
theorem pAl_b (x : Int32) (G : Nat → Int32) (s : Nat) : ∀ r t c, pAl x G s r t c ≤ c + r := by
  intro r
  induction r with
  | zero => intro t c; exact Nat.le_refl _
  | succ r ih =>
    intro t c
    rw [pAl]
    have := ih (t + 1) (if pEq x G s t then c + 1 else c)
    split at this <;> rename_i h <;> simp only [h] <;> simp <;> omega
theorem pMo_b (x : Int32) (G : Nat → Int32) : ∀ r s m, m ≤ 10 → pMo x G r s m ≤ 10 := by
  intro r
  induction r with
  | zero => intro s m h; exact h
  | succ r ih =>
    intro s m h
    rw [pMo]
    apply ih
    have := pAl_b x G s 10 0 0
    split <;> omega
theorem pc_most {m : zz_Mem} {x : Int32} {k : Nat} (hk : k < 9) {G : Nat → Int32} (h98 : ∀ s, s < 10 → m.1 98 (s * 9 + k) = G s) : f_X11_mostAlike m x (nI k) = some (nI (pMo x G 10 0 0)) := by
  have hfu : zz_fuel = 5000 := rfl
  have l10 : (10 : Int32) = nI 10 := rfl
  have l9 : (9 : Int32) = nI 9 := rfl
  have inner : ∀ (k5 : Int32 → Int32 → Int32 → Int32 → Option Int32) (s mo : Nat), s < 10 → ∀ (r t c fuel : Nat), t + r = 10 → r < fuel → f_X11_mostAlike_18 m k5 fuel x (nI k) (nI mo) (nI s) (nI c) (nI t) = f_X11_mostAlike_93 m k5 x (nI k) (nI mo) (nI s) (nI (pAl x G s r t c)) := by
    intro k5 s mo hs r
    induction r with
    | zero =>
      intro t c fuel h1 h2
      obtain ⟨fu, rfl⟩ : ∃ n, fuel = n + 1 := ⟨fuel - 1, by omega⟩
      rw [f_X11_mostAlike_18, l10, if_pos (nI_le (by omega) (by omega))]; rfl
    | succ r ih =>
      intro t c fuel h1 h2
      obtain ⟨fu, rfl⟩ : ∃ n, fuel = n + 1 := ⟨fuel - 1, by omega⟩
      have hi : ∀ s0 : Bool, s0 = (pbit x s && pbit x t) → f_X11_mostAlike_50 m k5 (f_X11_mostAlike_18 m k5 fu) x (nI k) (nI mo) (nI s) (nI c) (nI t) (pd_b s0) = f_X11_mostAlike_93 m k5 x (nI k) (nI mo) (nI s) (nI (pAl x G s (r + 1) t c)) := by
        intro s0 hs0
        unfold f_X11_mostAlike_50
        rw [pAl]
        unfold pEq
        rw [← hs0]
        cases s0 with
        | false =>
          rw [if_pos (show pd_b false = 0 from rfl), pq_letI, nI_1, Bool.false_and, if_neg (by decide)]
          exact ih (t + 1) c fu (by omega) (by omega)
        | true =>
          rw [if_neg (show ¬ pd_b true = 0 by decide), l9, pk_mul, nI_add, pk_mul, nI_add]
          simp (disch := omega) only [qx_ix, qx_cl, h98 s hs, h98 t (by omega), Bool.true_and]
          by_cases e : G s = G t
          · rw [if_pos e, decide_eq_true e, if_pos rfl, pq_letI, pq_letI, nI_1, nI_1]
            exact ih (t + 1) (c + 1) fu (by omega) (by omega)
          · rw [if_neg e, decide_eq_false e, if_neg (by decide), pq_letI, nI_1]
            exact ih (t + 1) c fu (by omega) (by omega)
      rw [f_X11_mostAlike_18, l10, if_neg (nI_ge (by omega) (by omega))]
      have b1 := pbit_c x hs
      have b2 := pbit_c x (s := t) (by omega)
      by_cases c1 : pbit x s = true
      · rw [if_pos (b1.mpr c1)]
        by_cases c2 : pbit x t = true
        · rw [if_pos (b2.mpr c2)]; exact hi true (by rw [c1, c2]; rfl)
        · rw [if_neg (fun z => c2 (b2.mp z))]; exact hi false (by simp at c2; rw [c1, c2]; rfl)
      · rw [if_neg (fun z => c1 (b1.mp z))]; exact hi false (by simp at c1; rw [c1]; rfl)
  have outer : ∀ (r s mo fuel : Nat), s + r = 10 → r < fuel → mo ≤ 10 → f_X11_mostAlike_5 m fuel x (nI k) (nI mo) (nI s) = some (nI (pMo x G r s mo)) := by
    intro r
    induction r with
    | zero =>
      intro s mo fuel h1 h2 h3
      obtain ⟨fu, rfl⟩ : ∃ n, fuel = n + 1 := ⟨fuel - 1, by omega⟩
      rw [f_X11_mostAlike_5, l10, if_pos (nI_le (by omega) (by omega))]; rfl
    | succ r ih =>
      intro s mo fuel h1 h2 h3
      obtain ⟨fu, rfl⟩ : ∃ n, fuel = n + 1 := ⟨fuel - 1, by omega⟩
      have hi := inner (f_X11_mostAlike_5 m fu) s mo (by omega) 10 0 0 zz_fuel (by omega) (by omega)
      rw [nI_0] at hi
      have hb := pAl_b x G s 10 0 0
      rw [f_X11_mostAlike_5, l10, if_neg (nI_ge (by omega) (by omega)), hi]
      unfold f_X11_mostAlike_93 f_J9_max_7cf53
      rw [pMo]
      by_cases c : mo < pAl x G s 10 0 0
      · rw [if_pos (nI_lt c (by omega)), if_pos c, pq_bndS, pq_letI, nI_1]; exact ih (s + 1) _ fu (by omega) (by omega) (by omega)
      · rw [if_neg (nI_nlt (by omega) (by omega)), if_neg c, pq_bndS, pq_letI, nI_1]; exact ih (s + 1) _ fu (by omega) (by omega) h3
  have := outer 10 0 0 zz_fuel (by omega) (by omega) (by omega)
  rw [nI_0] at this
  exact this
theorem pr_most {m : zz_Mem} {x : Int32} {k : Nat} (hk : k < 9) {G : Nat → Int32} (h21 : ∀ s, s < 10 → m.1 21 (9 * s + k) / 100 = G s) : f_X12_mostAlike m x (nI k) = some (nI (pMo x G 10 0 0)) := by
  have hfu : zz_fuel = 5000 := rfl
  have l10 : (10 : Int32) = nI 10 := rfl
  have l9 : (9 : Int32) = nI 9 := rfl
  have inner : ∀ (k5 : Int32 → Int32 → Int32 → Int32 → Option Int32) (s mo : Nat), s < 10 → ∀ (r t c fuel : Nat), t + r = 10 → r < fuel → f_X12_mostAlike_18 m k5 fuel x (nI k) (nI mo) (nI s) (nI c) (nI t) = f_X12_mostAlike_94 m k5 x (nI k) (nI mo) (nI s) (nI (pAl x G s r t c)) := by
    intro k5 s mo hs r
    induction r with
    | zero =>
      intro t c fuel h1 h2
      obtain ⟨fu, rfl⟩ : ∃ n, fuel = n + 1 := ⟨fuel - 1, by omega⟩
      rw [f_X12_mostAlike_18, l10, if_pos (nI_le (by omega) (by omega))]; rfl
    | succ r ih =>
      intro t c fuel h1 h2
      obtain ⟨fu, rfl⟩ : ∃ n, fuel = n + 1 := ⟨fuel - 1, by omega⟩
      have l0 : (0 : Int32) = nI 0 := rfl
      have h85 : ∀ b : Bool, f_X12_mostAlike_85 m k5 (f_X12_mostAlike_18 m k5 fu) x (nI k) (nI mo) (nI s) (nI t) (pd_b b) (nI c) = f_X12_mostAlike_94 m k5 x (nI k) (nI mo) (nI s) (nI (pAl x G s r (t + 1) (if b then c + 1 else c))) := by
        intro b
        unfold f_X12_mostAlike_85
        cases b with
        | false =>
          rw [pq_letI, pq_letI, nI_1, show pd_b false = nI 0 from rfl, nI_add, Nat.add_zero, if_neg (by decide)]
          exact ih (t + 1) c fu (by omega) (by omega)
        | true =>
          rw [pq_letI, pq_letI, nI_1, show pd_b true = nI 1 from rfl, nI_add, if_pos rfl]
          exact ih (t + 1) (c + 1) fu (by omega) (by omega)
      rw [f_X12_mostAlike_18, l10, if_neg (nI_ge (by omega) (by omega)), pbit_r x hs, pq_bndS, pAl]
      unfold pEq
      cases pbit x s with
      | false =>
        rw [if_pos (show pd_b false = 0 from rfl)]
        exact h85 false
      | true =>
        rw [if_neg (show ¬ pd_b true = 0 by decide), pbit_r x (by omega), pq_bndS]
        cases pbit x t with
        | false =>
          rw [if_pos (show pd_b false = 0 from rfl)]
          exact h85 false
        | true =>
          rw [if_neg (show ¬ pd_b true = 0 by decide), l9, pk_mul, nI_add, pk_mul, nI_add]
          simp (disch := omega) only [qx_ix, qx_cl, h21 s hs, h21 t (by omega), Bool.true_and]
          by_cases e : G s = G t
          · rw [if_pos e, decide_eq_true e]; exact h85 true
          · rw [if_neg e, decide_eq_false e]; exact h85 false
  have outer : ∀ (r s mo fuel : Nat), s + r = 10 → r < fuel → mo ≤ 10 → f_X12_mostAlike_5 m fuel x (nI k) (nI mo) (nI s) = some (nI (pMo x G r s mo)) := by
    intro r
    induction r with
    | zero =>
      intro s mo fuel h1 h2 h3
      obtain ⟨fu, rfl⟩ : ∃ n, fuel = n + 1 := ⟨fuel - 1, by omega⟩
      rw [f_X12_mostAlike_5, l10, if_pos (nI_le (by omega) (by omega))]; rfl
    | succ r ih =>
      intro s mo fuel h1 h2 h3
      obtain ⟨fu, rfl⟩ : ∃ n, fuel = n + 1 := ⟨fuel - 1, by omega⟩
      have hi := inner (f_X12_mostAlike_5 m fu) s mo (by omega) 10 0 0 zz_fuel (by omega) (by omega)
      rw [nI_0] at hi
      have hb := pAl_b x G s 10 0 0
      rw [f_X12_mostAlike_5, l10, if_neg (nI_ge (by omega) (by omega)), hi]
      unfold f_X12_mostAlike_94
      rw [pMo]
      by_cases c : mo < pAl x G s 10 0 0
      · rw [if_neg (nI_ge c (by omega)), if_pos c, pq_letI, nI_1]; exact ih (s + 1) _ fu (by omega) (by omega) (by omega)
      · rw [if_pos (nI_le (by omega) (by omega)), if_neg c, pq_letI, nI_1]; exact ih (s + 1) _ fu (by omega) (by omega) h3
  have := outer 10 0 0 zz_fuel (by omega) (by omega) (by omega)
  rw [nI_0] at this
  exact this
/-- the reference keeps the factors of all shifts -/
theorem pr_keep {a : Nat → Int32} (hv : pv_D a) (x : Int32) : ∀ (r s fuel : Nat) (ν : zz_Mem), s + r = 10 → r < fuel → pI_r ν a → (s = 0 ∨ (ν.1 0 28 = nI (pL a + 1) ∧ ∀ j, j ≤ pL a → ν.1 13 j = nI (pDay a j))) → (∀ s' k, s' < s → k ≤ pL a → ν.1 21 (9 * s' + k) = iI (pFac a (pCnt a (pr_st ν) (nI s')) k)) →
    ∃ ν', f_X12_ask_26 fuel x (nI s) ν = f_X12_ask_87 x ν' ∧ pI_r ν' a ∧ pK_r ν ν' ∧ pr_st ν' = pr_st ν ∧ ν'.1 0 28 = nI (pL a + 1) ∧ (∀ j, j ≤ pL a → ν'.1 13 j = nI (pDay a j)) ∧ ∀ s' k, s' < 10 → k ≤ pL a → ν'.1 21 (9 * s' + k) = iI (pFac a (pCnt a (pr_st ν) (nI s')) k) := by
  have hfu : zz_fuel = 5000 := rfl
  have hL8 := (pD_D hv).2.1
  have l10 : (10 : Int32) = nI 10 := rfl
  have l9 : (9 : Int32) = nI 9 := rfl
  intro r
  induction r with
  | zero =>
    intro s fuel ν h1 h2 hr h3 h21
    obtain ⟨fu, rfl⟩ : ∃ n, fuel = n + 1 := ⟨fuel - 1, by omega⟩
    rw [f_X12_ask_26, l10, if_pos (nI_le (by omega) (by omega))]
    obtain ⟨q1, q2⟩ := h3.resolve_left (by omega)
    exact ⟨ν, rfl, hr, pK_r0 ν, rfl, q1, q2, fun s' k g1 g2 => h21 s' k (by omega) g2⟩
  | succ r ih =>
    intro s fuel ν h1 h2 hr h3 h21
    obtain ⟨fu, rfl⟩ : ∃ n, fuel = n + 1 := ⟨fuel - 1, by omega⟩
    obtain ⟨n1, n2, F, y1, y2, y3⟩ := pr_byShift hv hr.1 hr.2 (nI s)
    have y4 := pr_lw y3
    obtain ⟨u1, u2, u3⟩ := pr_cwK y4 hr
    rw [f_X12_ask_26, l10, if_neg (nI_ge (by omega) (by omega)), y1, pq_bndS, y2, pq_bndS]
    have w21 : ∀ s' k, s' < s → k ≤ pL a → n2.1 21 (9 * s' + k) = iI (pFac a (pCnt a (pr_st ν) (nI s')) k) := fun s' k g1 g2 => by rw [(y4.1 21 (by simp)).1]; exact h21 s' k g1 g2
    have keep : ∀ (r' k fuel' : Nat) (m3 : zz_Mem), k + r' = pL a + 1 → r' < fuel' → pq_fr [21] n2 m3 → (∀ s' k', s' < s → k' ≤ pL a → m3.1 21 (9 * s' + k') = iI (pFac a (pCnt a (pr_st ν) (nI s')) k')) → (∀ k', k' < k → m3.1 21 (9 * s + k') = iI (pFac a (pCnt a (pr_st ν) (nI s)) k')) → ∃ m4, f_X12_ask_46 (f_X12_ask_26 fu) fuel' x (nI s) (nI k) m3 = f_X12_ask_26 fu x (nI (s + 1)) m4 ∧ pq_fr [21] n2 m4 ∧ ∀ s' k', s' < s + 1 → k' ≤ pL a → m4.1 21 (9 * s' + k') = iI (pFac a (pCnt a (pr_st ν) (nI s')) k') := by
      intro r'
      induction r' with
      | zero =>
        intro k fuel' m3 g1 g2 f g3 g4
        obtain ⟨fu', rfl⟩ : ∃ n, fuel' = n + 1 := ⟨fuel' - 1, by omega⟩
        rw [f_X12_ask_46, (f 0 (by simp)).1, y4.2.2.2.2.1.1.1, if_pos (nI_le (by omega) (by omega)), pq_letI, nI_1]
        refine ⟨m3, rfl, f, fun s' k' q1 q2 => ?_⟩
        by_cases cs : s' = s
        · rw [cs]; exact g4 k' (by omega)
        · exact g3 s' k' (by omega) q2
      | succ r' ihr =>
        intro k fuel' m3 g1 g2 f g3 g4
        obtain ⟨fu', rfl⟩ : ∃ n, fuel' = n + 1 := ⟨fuel' - 1, by omega⟩
        have q14 : m3.1 14 k = iI (pFac a (pCnt a (pr_st ν) (nI s)) k) := by rw [(f 14 (by simp)).1]; exact y4.2.2.2.2.1.1.2.2 k (by omega)
        rw [f_X12_ask_46, (f 0 (by simp)).1, y4.2.2.2.2.1.1.1, if_neg (nI_ge (by omega) (by omega)), pq_ixE (by omega) (by decide), l9, pk_mul, nI_add, pq_ixE (by omega) (by decide), nI_clamp (by omega), nI_clamp (by omega), q14, pq_letM, pq_letI, nI_1]
        exact ihr (k + 1) fu' _ (by omega) (by omega) (pq_frI f _ _ (by simp)) (fun s' k' q1 q2 => by rw [qx_isN (by omega)]; exact g3 s' k' q1 q2) (fun k' q1 => by
          by_cases ck : k' = k
          · rw [ck, qx_isE]
          · rw [qx_isN (by omega)]; exact g4 k' (by omega))
    obtain ⟨m4, z1, z2, z3⟩ := keep (pL a + 1) 0 zz_fuel n2 (by omega) (by omega) (pq_fr0 n2) w21 (fun k' q => absurd q (Nat.not_lt_zero _))
    rw [nI_0] at z1
    rw [z1]
    obtain ⟨v1, v2⟩ := pI_rF u2 z2 (by simp)
    have vs : pr_st m4 = pr_st ν := v2.trans u3
    obtain ⟨ν', w1, w2, w3, w4, w5, w6, w7⟩ := ih (s + 1) fu m4 (by omega) (by omega) v1 (Or.inr ⟨by rw [(z2 0 (by simp)).1]; exact y4.2.2.2.2.1.1.1, by rw [(z2 13 (by simp)).1]; exact y4.2.2.2.2.1.1.2.1⟩) (by rw [vs]; exact z3)
    rw [vs] at w7 w4
    refine ⟨ν', w1, w2, pK_rT u1 (pK_rT (pK_rF z2 (by simp) ?_ ?_ ?_) w3), w4, w5, w6, w7⟩
    all_goals rw [(z2 0 (by simp)).1]
theorem op_ask : zL_op34 pI := by
  intro n μ ν p1 ⟨a, hv, hS, hc, hr, hx⟩
  have k0 := pr_t0 hr 0 (by decide) 0
  have htr : ∀ t, t < 4 → pX_tray μ (zz_setI ν 0 0 0) t := fun t ht => hx.2.1 t ht
  have fin := pI_mk hv hS hx hc (pK_c0 μ) k0.2.1 k0.1
  unfold f_X11_ask f_X12_ask
  rw [pq_letM]
  generalize zz_setI ν 0 0 0 = ν1 at *
  have hfu : zz_fuel = 5000 := rfl
  have hL8 := (pD_D hv).2.1
  have l9 : (9 : Int32) = nI 9 := rfl
  rcases pt_told htr p1 with ⟨t, sz, t1, t2, t3, t4, t5, t6, t7, t8, t9, t10⟩ | ⟨r, r0, r1, r2⟩
  · rw [t5, t6, pq_bndS, pq_bndS, if_pos rfl, if_pos rfl, t2, pq_ixE (by omega) (by decide), nI_clamp (by omega)]
    obtain ⟨x, m', ν', w1, w2, w3, w4, w5, w6, w7⟩ := pj_shifts hv (st := pr_st ν) t1 t4 (V := fun j => ν1.2.1 25 (40 * t + j)) t10 10 0 zz_fuel 0 μ ν1 (by omega) (by omega) hc k0.2.1 k0.2.2 t7 t8 t9 (fun _ _ => rfl) (fun s' k q => absurd q (Nat.not_lt_zero _))
    rw [nI_0] at w1 w2
    have w1' : f_X11_shiftsTold (99 + 2 * t) μ = some (x, m') := w1
    have w2' : f_X12_shiftsOf (nI t) ν1 = some (x, ν') := w2
    rw [w1', w2', pq_bnd2, pq_bnd2]
    have ws : pr_st ν' = pr_st ν := by rw [← k0.2.2]; unfold pr_st; rw [w6.1 1 (by omega)]
    obtain ⟨ν3, y1, y2, y3, y4, y5, y6, y7⟩ := pr_keep hv x 10 0 zz_fuel ν' (by omega) (by omega) w5 (Or.inl rfl) (fun s' k q => absurd q (Nat.not_lt_zero _))
    rw [nI_0] at y1
    rw [ws] at y7
    rw [y1]
    unfold f_X12_ask_87
    have fin2 := pI_mk hv hS hx w3 w4 y2 (pK_rT k0.1 (pK_rT w6 y3))
    by_cases cx : x = 0
    · have hz : zz_fuel = 4999 + 1 := rfl
      rw [if_pos cx, hz, f_X12_ask_98, y5, if_neg (show ¬ nI (pL a + 1) ≤ 0 from nI_nle (by omega) (by omega)), if_pos cx]
      exact ⟨_, _, _, rfl, rfl, fin2⟩
    · rw [if_neg cx]
      have hG : ∀ k, k ≤ pL a → f_X11_mostAlike m' x (nI k) = some (nI (pMo x (fun s => iI (pFac a (pCnt a (pr_st ν) (nI s)) k) / 100) 10 0 0)) ∧ f_X12_mostAlike ν3 x (nI k) = some (nI (pMo x (fun s => iI (pFac a (pCnt a (pr_st ν) (nI s)) k) / 100) 10 0 0)) := fun k hk => ⟨pc_most (by omega) (fun s hs => w7 s k hs hk), pr_most (by omega) (fun s hs => by rw [y7 s k hs hk])⟩
      have d79 : ∀ k, k ≤ pL a → m'.1 79 k = nI (pDay a k) := w3.2.2.2.1.2.1.2.1
      have loop : ∀ (r k fuel : Nat) (best : Int32) (l : Nat), k + r = pL a + 1 → r < fuel → l ≤ 10 → ∃ y, f_X11_ask_39 fuel x best (nI l) (nI k) m' = some (y, m') ∧ f_X12_ask_98 fuel x best (nI l) (nI k) ν3 = some (y, ν3) := by
        intro r
        induction r with
        | zero =>
          intro k fuel best l h1 h2 hl
          obtain ⟨fu, rfl⟩ : ∃ n, fuel = n + 1 := ⟨fuel - 1, by omega⟩
          rw [f_X11_ask_39, f_X12_ask_98, w3.2.2.2.1.2.1.1, y5, if_pos (nI_le (by omega) (by omega)), if_pos (nI_le (by omega) (by omega))]
          exact ⟨best, rfl, rfl⟩
        | succ r ih =>
          intro k fuel best l h1 h2 hl
          obtain ⟨fu, rfl⟩ : ∃ n, fuel = n + 1 := ⟨fuel - 1, by omega⟩
          obtain ⟨g1, g2⟩ := hG k (by omega)
          have gb := pMo_b x (fun s => iI (pFac a (pCnt a (pr_st ν) (nI s)) k) / 100) 10 0 0 (by omega)
          rw [f_X11_ask_39, f_X12_ask_98, w3.2.2.2.1.2.1.1, y5, if_neg (nI_ge (by omega) (by omega)), if_neg (nI_ge (by omega) (by omega)), l9, if_neg (nI_ge (by omega) (by omega)), if_neg cx, g1, g2, pq_bndS, pq_bndS]
          generalize pMo x (fun s => iI (pFac a (pCnt a (pr_st ν) (nI s)) k) / 100) 10 0 0 = M at *
          by_cases c : l ≤ M
          · rw [if_pos (nI_le c (by omega)), if_neg (nI_nlt c (by omega)), pq_letI, pq_letI, nI_1]
            exact ih (k + 1) fu best l (by omega) (by omega) hl
          · rw [if_neg (nI_ge (by omega) (by omega)), if_pos (nI_lt (by omega) (by omega))]
            simp (disch := omega) only [qx_ix, qx_cl, d79 k (by omega), y6 k (by omega), pq_letI, nI_1]
            exact ih (k + 1) fu _ M (by omega) (by omega) gb
      obtain ⟨g1, g2⟩ := hG 0 (by omega)
      have gb := pMo_b x (fun s => iI (pFac a (pCnt a (pr_st ν) (nI s)) 0) / 100) 10 0 0 (by omega)
      have hz : zz_fuel = 4999 + 1 := rfl
      have l11 : (11 : Int32) = nI 11 := rfl
      have l28 : (268435456 : Int32) = nI 268435456 := rfl
      have l0 : (0 : Int32) = nI 0 := rfl
      rw [nI_0] at g1 g2
      rw [hz, f_X11_ask_39, f_X12_ask_98, w3.2.2.2.1.2.1.1, y5, if_neg (show ¬ nI (pL a + 1) ≤ 0 from nI_nle (by omega) (by omega)), if_neg (show ¬ nI (pL a + 1) ≤ 0 from nI_nle (by omega) (by omega)), if_neg (show ¬ (9 : Int32) ≤ 0 by decide), if_neg cx, g1, g2, pq_bndS, pq_bndS]
      generalize pMo x (fun s => iI (pFac a (pCnt a (pr_st ν) (nI s)) 0) / 100) 10 0 0 = M at *
      rw [l11, if_neg (nI_ge (by omega) (by omega)), l28, if_pos (nI_lt (by omega) (by omega)), l0]
      simp (disch := omega) only [qx_ix, qx_cl, d79 0 (by omega), y6 0 (by omega), pq_letI, nI_1]
      obtain ⟨y, z1, z2⟩ := loop (pL a) 1 4999 (nI (pDay a 0)) M (by omega) (by omega) gb
      rw [Nat.zero_add, z1, z2]
      exact ⟨_, _, _, rfl, rfl, fin2⟩
  · rw [r1, r2, pq_bndS, pq_bndS, if_neg r0, if_neg r0]
    exact ⟨_, _, _, rfl, rfl, fin⟩
