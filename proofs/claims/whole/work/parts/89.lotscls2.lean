/-! ===== 89: what the class adds for a draw ===== -/
theorem pc_icT {a st : Nat → Int32} {m1 m' : zz_Mem} (c1 : pI_c m1 a st) (w1 : pc_cw m1 83 a (pCn a st)) (z1 : m1.1 0 18 = 0) (f : pq_fr [88, 89, 90, 91, 92, 96, 97] m1 m') (fb : pc_fb m' 88) : pI_c m' a st ∧ pc_cw m' 83 a (pCn a st) ∧ m'.1 0 18 = 0 ∧ pK_c m1 m' := by
  obtain ⟨h1, h2, h3, h4, h5, h6, h7⟩ := c1
  have hz : m'.1 0 18 = 0 := by rw [(f 0 (by simp)).1]; exact z1
  have hcw : pc_cw m' 83 a (pCn a st) := by
    refine ⟨?_, w1.2.1, ?_⟩
    · unfold pc_cnt; rw [(f (83 + 1) (by simp)).1]; exact w1.1
    · rw [(f (83 + 2) (by simp)).1]; exact w1.2.2
  refine ⟨⟨pc_planF h1 f (fun j hj => by simp <;> omega), pc_standF h2 f (by simp) (by simp) (by simp), ?_, pc_schedF h4 f (fun j a1 a2 => by simp <;> omega), ?_, fb, Or.inr ⟨hz, _, hcw⟩⟩, hcw, hz, pK_cF f (by simp <;> omega)⟩
  · unfold pc_known; rw [(f 82 (by simp)).1]; exact h3
  · unfold pc_fb; rw [(f (83 + 2) (by simp)).1]; exact h5
/-- what the tally of the class leaves -/
def pc_lt (a st : Nat → Int32) (b : Int32) (bar : Int64) (L : List (List Nat × Nat)) (m m' : zz_Mem) : Prop := pI_c m' a st ∧ pc_cw m' 83 a (pCn a st) ∧ m'.1 0 18 = 0 ∧ pK_c m m' ∧ m'.2.1 96 4 = m.2.1 96 4 + pSm (pfB a st b bar) L ∧ m'.2.1 96 5 = m.2.1 96 5 + pSm (fun x => lI (x.2 : Int)) L ∧ m'.2.1 96 6 = m.2.1 96 6 + pSm (pfW a st b) L
theorem pc_addDraw {a st : Nat → Int32} (hv : pv_D a) {m : zz_Mem} (hc : pI_c m a st) (hw : pc_cw m 83 a (pCn a st)) (hz : m.1 0 18 = 0) (b : Int32) (bar : Int64) {n : Nat} (hn : n ≤ 3) {D : List Nat} (hD : D.length = n) (hDb : ∀ x, x ∈ D → x ≤ pN a) (h97 : ∀ j, j < n → m.1 97 j = nI (D.getD j 0)) : ∃ m', f_X4_addDraw b (nI n) bar m = some m' ∧ pc_lt a st b bar [((List.range (pN a)).map (fun i => D.count i), pOw n (fun j => D.getD j 0) * (10 - pN a) ^ D.count (pN a))] m m' := by
  have hfu : zz_fuel = 5000 := rfl
  have h8 := (pN_b hv).1
  have hL8 := (pD_D hv).2.1
  have l10 : (10 : Int32) = nI 10 := rfl
  have e5 : m.1 2 5 = nI (pN a) := hc.1.2.2.2.2.1.trans (pN_b hv).2
  unfold f_X4_addDraw f_X1_copyFrom
  rw [pq_letM, pq_letM, pq_bndS]
  generalize hm2 : zz_rowI (zz_rowI m 89 (va_cpy (m.1 84) (m.1 89) 0 0 8)) 90 (va_cpy ((zz_rowI m 89 (va_cpy (m.1 84) (m.1 89) 0 0 8)).1 85) ((zz_rowI m 89 (va_cpy (m.1 84) (m.1 89) 0 0 8)).1 90) 0 0 9) = m2
  have f2 : pq_fr [89, 90] m m2 := by rw [← hm2]; exact pq_frr (pq_frr (pq_fr0 m) _ (by simp)) _ (by simp)
  have r89 : ∀ j, j < 8 → m2.1 89 j = m.1 84 j := fun j hj => by
    rw [← hm2, pz_rn _ _ (by decide), pz_rs, pk_cpy_in (by omega) (by omega), Nat.zero_add, Nat.sub_zero]
  have r90 : ∀ j, j < 9 → m2.1 90 j = m.1 85 j := fun j hj => by
    rw [← hm2, pz_rs, pk_cpy_in (by omega) (by omega), Nat.zero_add, Nat.sub_zero, pz_rn _ _ (by decide)]
  have hG : ∀ j, j < n → m2.1 97 j = nI (D.getD j 0) ∧ D.getD j 0 < 10 := fun j hj => by
    refine ⟨by rw [(f2 97 (by simp)).1]; exact h97 j hj, ?_⟩
    have : D.getD j 0 ∈ D := by
      rw [List.getD_eq_getElem?_getD, List.getElem?_eq_getElem (by omega)]
      exact List.getElem_mem _
    have := hDb _ this
    omega
  rw [pc_orders hn hG, pq_bndS]
  have draws : ∀ (E : List Nat) (k fuel w : Nat) (m3 : zz_Mem) (cn : Nat → Nat), k + E.length = n → E.length < fuel → pq_fr [89] m2 m3 → (∀ j, j < E.length → m2.1 97 (k + j) = nI (E.getD j 0)) → (∀ x, x ∈ E → x ≤ pN a) → (∀ i, i < pN a → m3.1 89 i = nI (pCn a st i) + b * nI (cn i)) → ∃ m4, f_X4_addDraw_21 fuel b (nI n) bar (lI (w : Int)) (nI k) m3 = f_X4_addDraw_91 zz_fuel bar (lI ((w * (10 - pN a) ^ E.count (pN a) : Nat) : Int)) 0 m4 ∧ pq_fr [89] m2 m4 ∧ ∀ i, i < pN a → m4.1 89 i = nI (pCn a st i) + b * nI (cn i + E.count i) := by
    intro E
    induction E with
    | nil =>
      intro k fuel w m3 cn g1 g2 f g3 g4 g5
      obtain ⟨fu, rfl⟩ : ∃ n, fuel = n + 1 := ⟨fuel - 1, by omega⟩
      simp only [List.length_nil] at g1
      rw [f_X4_addDraw_21, if_pos (nI_le (by omega) (by omega)), List.count_nil, Nat.pow_zero, Nat.mul_one]
      exact ⟨m3, rfl, f, g5⟩
    | cons x E ih =>
      intro k fuel w m3 cn g1 g2 f g3 g4 g5
      obtain ⟨fu, rfl⟩ : ∃ n, fuel = n + 1 := ⟨fuel - 1, by omega⟩
      simp only [List.length_cons] at g1 g2 g3
      have hx := g4 x List.mem_cons_self
      have e97 : m3.1 97 k = nI x := by rw [(f 97 (by simp)).1]; exact g3 0 (by omega)
      have e25 : m3.1 2 5 = nI (pN a) := by rw [(f 2 (by simp)).1, (f2 2 (by simp)).1]; exact e5
      have next : ∀ j, j < E.length → m2.1 97 (k + 1 + j) = nI (E.getD j 0) := fun j hj => by
        rw [show k + 1 + j = k + (j + 1) by omega]; exact g3 (j + 1) (by omega)
      rw [f_X4_addDraw_21, if_neg (nI_ge (by omega) (by omega))]
      simp (disch := omega) only [qx_ix, qx_cl]
      rw [e25, e97]
      by_cases c : pN a ≤ x
      · obtain rfl : x = pN a := by omega
        rw [if_pos (nI_le (by omega) (by omega)), l10, pk_sub (by omega), qx_nl (by omega), lI_mul, pq_letJ, pq_letI, nI_1]
        obtain ⟨m4, y1, y2, y3⟩ := ih (k + 1) fu (w * (10 - pN a)) m3 cn (by omega) (by omega) f next (fun y hy => g4 y (List.mem_cons_of_mem _ hy)) g5
        rw [Int.natCast_mul] at y1
        rw [y1, List.count_cons_self, Nat.pow_succ, Nat.mul_assoc, Nat.mul_comm (10 - pN a)]
        exact ⟨m4, rfl, y2, fun i hi => by rw [List.count_cons_of_ne (by omega)]; exact y3 i hi⟩
      · rw [if_neg (nI_ge (by omega) (by omega))]
        simp (disch := omega) only [qx_ix, qx_cl]
        rw [pq_letM, pq_letI, nI_1]
        obtain ⟨m4, y1, y2, y3⟩ := ih (k + 1) fu w (zz_setI m3 89 x (m3.1 89 x + b)) (fun i => if i = x then cn i + 1 else cn i) (by omega) (by omega) (pq_frI f _ _ (by simp)) next (fun y hy => g4 y (List.mem_cons_of_mem _ hy)) (fun i hi => by
          by_cases ci : i = x
          · rw [ci, qx_isE, if_pos rfl, g5 x (by omega), pi_mulS, Int32.add_assoc]
          · rw [qx_isN ci, if_neg ci]; exact g5 i hi)
        rw [y1, List.count_cons_of_ne (by omega)]
        refine ⟨m4, rfl, y2, fun i hi => ?_⟩
        rw [y3 i hi]
        by_cases ci : i = x
        · subst ci
          rw [if_pos rfl, List.count_cons_self, show cn i + 1 + List.count i E = cn i + (List.count i E + 1) by omega]
        · rw [if_neg ci, List.count_cons_of_ne (fun z => ci z.symm)]
  obtain ⟨m3, y1, y2, y3⟩ := draws D 0 zz_fuel (pOw n (fun j => D.getD j 0)) m2 (fun _ => 0) (by omega) (by omega) (pq_fr0 m2) (fun j hj => by rw [Nat.zero_add]; exact (hG j (by omega)).1) hDb (fun i hi => by
    rw [r89 i (by omega), (hw.1 i hi).1, nI_0, Int32.mul_zero, Int32.add_zero])
  rw [nI_0] at y1
  rw [y1]
  generalize hWW : pOw n (fun j => D.getD j 0) * (10 - pN a) ^ D.count (pN a) = W at *
  generalize hOO : (List.range (pN a)).map (fun i => D.count i) = O at *
  have eO : ∀ i, i < pN a → O.getD i 0 = D.count i := fun i hi => by rw [← hOO]; simp [hi]
  have clamp : ∀ (r k fuel : Nat) (m4 : zz_Mem), k + r = pN a → r < fuel → pq_fr [89] m2 m4 → (∀ i, i < k → m4.1 89 i = nI (pCo (pCn a st) b O i)) → (∀ i, k ≤ i → i < pN a → m4.1 89 i = nI (pCn a st i) + b * nI (D.count i)) → ∃ m5, f_X4_addDraw_91 fuel bar (lI (W : Int)) (nI k) m4 = f_X4_addDraw_132 bar (lI (W : Int)) m5 ∧ pq_fr [89] m2 m5 ∧ ∀ i, i < pN a → m5.1 89 i = nI (pCo (pCn a st) b O i) := by
    intro r
    induction r with
    | zero =>
      intro k fuel m4 g1 g2 f g3 g4
      obtain ⟨fu, rfl⟩ : ∃ n, fuel = n + 1 := ⟨fuel - 1, by omega⟩
      have e25 : m4.1 2 5 = nI (pN a) := by rw [(f 2 (by simp)).1, (f2 2 (by simp)).1]; exact e5
      rw [f_X4_addDraw_91, e25, if_pos (nI_le (by omega) (by omega))]
      exact ⟨m4, rfl, f, fun i hi => g3 i (by omega)⟩
    | succ r ih =>
      intro k fuel m4 g1 g2 f g3 g4
      obtain ⟨fu, rfl⟩ : ∃ n, fuel = n + 1 := ⟨fuel - 1, by omega⟩
      have e25 : m4.1 2 5 = nI (pN a) := by rw [(f 2 (by simp)).1, (f2 2 (by simp)).1]; exact e5
      rw [f_X4_addDraw_91, e25, if_neg (nI_ge (by omega) (by omega))]
      simp (disch := omega) only [qx_ix, qx_cl]
      rw [g4 k (by omega) (by omega), pg_bounds, pq_bndS, pq_letM, pq_letI, nI_1]
      exact ih (k + 1) fu _ (by omega) (by omega) (pq_frI f _ _ (by simp)) (fun i hi => by
        by_cases c : i = k
        · rw [c, qx_isE, pCo, eO k (by omega)]
        · rw [qx_isN c]; exact g3 i (by omega)) (fun i i1 i2 => by rw [qx_isN (by omega)]; exact g4 i (by omega) i2)
  obtain ⟨m5, x1, x2, x3⟩ := clamp (pN a) 0 zz_fuel m3 (by omega) (by omega) y2 (fun i hi => absurd hi (Nat.not_lt_zero _)) (fun i _ hi => by rw [y3 i hi, Nat.zero_add])
  rw [nI_0] at x1
  rw [x1]
  unfold f_X4_addDraw_132
  have f5 : pq_fr [89, 90] m m5 := pq_frT f2 (pq_frW x2 (by simp))
  have rr90 : m5.1 90 = m2.1 90 := (x2 90 (by simp)).1
  have hcnt : pc_cnt m5 88 a (pCo (pCn a st) b O) := fun i hi => ⟨x3 i hi, pCo_b _ _ _ _⟩
  have hfb : pc_fb m5 88 := by
    obtain ⟨G, hG⟩ := hc.2.2.2.2.1
    refine ⟨G, fun j hj => ?_⟩
    rw [show m5.1 (88 + 2) j = m.1 (83 + 2) j from by rw [show m5.1 (88 + 2) = m5.1 90 from rfl, rr90]; exact r90 j (by omega)]
    exact hG j hj
  obtain ⟨m6, F', e6, f6, s6, r6, b6⟩ := pc_solve hv (c := pCo (pCn a st) b O) (o := 88) (Or.inr rfl) (m := m5) (pc_planF hc.1 f5 (fun j hj => by simp <;> omega)) (pc_schedF hc.2.2.2.1 f5 (fun j a1 a2 => by simp <;> omega)) hcnt hfb (k := 0) (by omega) (F := pFac a (pCn a st)) ⟨hw.2.1.1, fun j q1 q2 => absurd q1 (by omega)⟩ (fun j q1 q2 => absurd q1 (by omega))
  have e6' : f_X1_solve 88 1 m5 = some m6 := e6
  rw [e6', pq_bndS]
  have fr : pq_fr [88, 89, 90, 91, 92] m m6 := pq_frT (pq_frW f5 (by simp <;> omega)) (pq_frW f6 (by simp <;> omega))
  obtain ⟨t1, t2, t3, t4⟩ := pc_icT hc hw hz (pq_frW fr (by simp <;> omega)) b6
  have tw : pc_cw m6 88 a (pCo (pCn a st) b O) := pc_cvw ⟨by unfold pc_cnt; rw [(f6 (88 + 1) (by simp)).1]; exact hcnt, s6, r6⟩
  rw [pc_worth hv (fun i _ => pCo_b _ _ _ i) t1 tw, pq_bndS, pq_letM, pq_letM]
  have e96 : m6.2.1 96 = m.2.1 96 := (fr 96 (by simp)).2.1
  generalize hm7 : zz_setJ m6 96 5 (m6.2.1 96 5 + lI (W : Int)) = m7
  have f7 : pq_fr [96] m6 m7 := by rw [← hm7]; exact pq_frJ (pq_fr0 m6) _ _ (by simp)
  generalize hm8 : zz_setJ m7 96 6 (m7.2.1 96 6 + lI (W : Int) * pW a (pCo (pCn a st) b O) st) = m8
  have f8 : pq_fr [96] m6 m8 := by rw [← hm8]; exact pq_frJ f7 _ _ (by simp)
  have v4 : m8.2.1 96 4 = m.2.1 96 4 := by rw [← hm8, qx_jsN (by decide), ← hm7, qx_jsN (by decide), e96]
  have v5 : m8.2.1 96 5 = m.2.1 96 5 + lI (W : Int) := by rw [← hm8, qx_jsN (by decide), ← hm7, qx_jsE, e96]
  have v6 : m8.2.1 96 6 = m.2.1 96 6 + lI (W : Int) * pW a (pCo (pCn a st) b O) st := by rw [← hm8, qx_jsE, ← hm7, qx_jsN (by decide), e96]
  have fbk : ∀ m', pq_fr [96] m6 m' → pI_c m' a st ∧ pc_cw m' 83 a (pCn a st) ∧ m'.1 0 18 = 0 ∧ pK_c m m' := fun m' f => by
    refine pc_icT hc hw hz (pq_frT (pq_frW fr (by simp <;> omega)) (pq_frW f (by simp))) ?_
    unfold pc_fb; rw [(f (88 + 2) (by simp)).1]; exact b6
  by_cases c : bar ≤ pW a (pCo (pCn a st) b O) st
  · rw [if_pos c]
    obtain ⟨q1, q2, q3, q4⟩ := fbk m8 f8
    refine ⟨m8, rfl, q1, q2, q3, q4, ?_, ?_, ?_⟩
    · show _ = _ + (pfB a st b bar (O, W) + 0)
      rw [v4, pfB, if_pos c, Int64.add_zero, Int64.add_zero]
    · show _ = _ + (lI (W : Int) + 0)
      rw [v5, Int64.add_zero]
    · show _ = _ + (pfW a st b (O, W) + 0)
      rw [v6, Int64.add_zero]; rfl
  · rw [if_neg c, pq_letM]
    obtain ⟨q1, q2, q3, q4⟩ := fbk (zz_setJ m8 96 4 (m8.2.1 96 4 + lI (W : Int))) (pq_frJ f8 _ _ (by simp))
    refine ⟨_, rfl, q1, q2, q3, q4, ?_, ?_, ?_⟩
    · show _ = _ + (pfB a st b bar (O, W) + 0)
      rw [qx_jsE, v4, pfB, if_neg c, Int64.add_zero]
    · show _ = _ + (lI (W : Int) + 0)
      rw [qx_jsN (by decide), v5, Int64.add_zero]
    · show _ = _ + (pfW a st b (O, W) + 0)
      rw [qx_jsN (by decide), v6, Int64.add_zero]; rfl
