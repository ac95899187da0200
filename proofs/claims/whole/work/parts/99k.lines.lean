/-! ===== 99k: tokens of lines, however both stand ===== -/
def pQm (B : Nat → Nat) (len e : Nat) (μ ν : zz_Mem) : Prop := (∃ p, e ≤ p ∧ pOK B len p μ ν) ∨ (∃ p, pBad B len p μ ν) ∨ ∃ w p, pFld B len w p μ ν
theorem pSto_n {B : Nat → Nat} {len w p : Nat} {μ : zz_Mem} (h : pSto B len w p μ) : ¬ μ.1 30 7 = 0 := by rw [h.2.2.2.2.1]; exact pr_n0 h.2.2.2.1
theorem pFld_x {B : Nat → Nat} {len w p : Nat} {μ ν : zz_Mem} (h : pFld B len w p μ ν) : pFx ν := by unfold pFx; rw [h.2.1]; exact pr_n0 h.1.2.2.2.1
theorem pQm_ok {B : Nat → Nat} {len e : Nat} {μ ν : zz_Mem} (h : pQm B len e μ ν) (h7 : μ.1 30 7 = 0) : ∃ p, e ≤ p ∧ pOK B len p μ ν := by
  rcases h with h | ⟨p, h⟩ | ⟨w, p, h⟩
  · exact h
  · exact absurd h7 (pSto_n h.1)
  · exact absurd h7 (pSto_n h.1)
theorem pQm_w {B : Nat → Nat} {len e e' : Nat} {μ ν : zz_Mem} (h : pQm B len e μ ν) (he : e' ≤ e) : pQm B len e' μ ν := by
  rcases h with ⟨p, h1, h⟩ | h | h
  · exact Or.inl ⟨p, by omega, h⟩
  · exact Or.inr (Or.inl h)
  · exact Or.inr (Or.inr h)
/-- what the readers look at stays -/
def pEqc (μ μ' : zz_Mem) : Prop := (∀ j, j < 9 → μ'.1 30 j = μ.1 30 j) ∧ μ'.1 1 = μ.1 1 ∧ μ'.2.2 30 1 = μ.2.2 30 1
def pEqr (ν ν' : zz_Mem) : Prop := (∀ j, j < 13 → ν'.1 0 j = ν.1 0 j) ∧ ν'.1 3 = ν.1 3
theorem pEqc0 (μ : zz_Mem) : pEqc μ μ := ⟨fun _ _ => rfl, rfl, rfl⟩
theorem pEqr0 (μ : zz_Mem) : pEqr μ μ := ⟨fun _ _ => rfl, rfl⟩
theorem pTxc_M {B : Nat → Nat} {len : Nat} {μ μ' : zz_Mem} (h : pTxc B len μ) (g : pEqc μ μ') : pTxc B len μ' := ⟨h.1, by rw [g.2.1]; exact h.2.1, by rw [g.1 2 (by omega)]; exact h.2.2.1, by rw [g.2.2]; exact h.2.2.2⟩
theorem pTxr_M {B : Nat → Nat} {len : Nat} {ν ν' : zz_Mem} (h : pTxr B len ν) (g : pEqr ν ν') : pTxr B len ν' := ⟨h.1, by rw [g.2]; exact h.2.1, by rw [g.1 8 (by omega)]; exact h.2.2⟩
theorem pOK_M {B : Nat → Nat} {len p : Nat} {μ μ' ν ν' : zz_Mem} (h : pOK B len p μ ν) (g : pEqc μ μ') (r : pEqr ν ν') : pOK B len p μ' ν' := by
  obtain ⟨h1, h2, h3⟩ := h
  refine ⟨pTxc_M h1 g, pTxr_M h2 r, ?_⟩
  rw [g.1 3 (by omega), g.1 4 (by omega), g.1 5 (by omega), g.1 6 (by omega), g.1 7 (by omega), r.1 6 (by omega), r.1 7 (by omega), r.1 9 (by omega), r.1 10 (by omega), r.1 11 (by omega)]
  exact h3
theorem pSto_M {B : Nat → Nat} {len w p : Nat} {μ μ' : zz_Mem} (h : pSto B len w p μ) (g : pEqc μ μ') : pSto B len w p μ' := by
  obtain ⟨h1, h3⟩ := h
  refine ⟨pTxc_M h1 g, ?_⟩
  rw [g.1 3 (by omega), g.1 4 (by omega), g.1 7 (by omega), g.1 8 (by omega)]
  exact h3
theorem pBad_M {B : Nat → Nat} {len p : Nat} {μ μ' ν ν' : zz_Mem} (h : pBad B len p μ ν) (g : pEqc μ μ') (r : pEqr ν ν') : pBad B len p μ' ν' := by
  obtain ⟨h1, h2, h3⟩ := h
  refine ⟨pSto_M h1 g, pTxr_M h2 r, ?_⟩
  rw [r.1 6 (by omega), r.1 9 (by omega), r.1 11 (by omega)]
  exact h3
theorem pFld_M {B : Nat → Nat} {len w p : Nat} {μ μ' ν ν' : zz_Mem} (h : pFld B len w p μ ν) (g : pEqc μ μ') (r : pEqr ν ν') : pFld B len w p μ' ν' := by
  obtain ⟨h1, h3⟩ := h
  refine ⟨pSto_M h1 g, ?_⟩
  rw [r.1 11 (by omega), r.1 12 (by omega)]
  exact h3
theorem pQm_M {B : Nat → Nat} {len e : Nat} {μ μ' ν ν' : zz_Mem} (h : pQm B len e μ ν) (g : pEqc μ μ') (r : pEqr ν ν') : pQm B len e μ' ν' := by
  rcases h with ⟨p, h1, h⟩ | ⟨p, h⟩ | ⟨w, p, h⟩
  · exact Or.inl ⟨p, h1, pOK_M h g r⟩
  · exact Or.inr (Or.inl ⟨p, pBad_M h g r⟩)
  · exact Or.inr (Or.inr ⟨w, p, pFld_M h g r⟩)
/-- a token is eaten -/
theorem pq_next {B : Nat → Nat} {len p : Nat} {μ ν : zz_Mem} (ho : pOK B len p μ ν) (ht : pkK B len p ≠ 30) : ∃ μ2 ν2, f_X7_next μ = some μ2 ∧ f_X12_next ν = some ν2 ∧ pNx μ μ2 ∧ pNz ν ν2 ∧ pQm B len (p + 1) μ2 ν2 := by
  obtain ⟨μ2, ν2, p2, y1, y2, y3, y4, y5, y6, y7⟩ := pj_next ho
  have k := (pkE_b (B := B) ho.2.2.1 (fun j hj => (ho.1.2.1 j hj).1)).2.2.1 ht
  refine ⟨μ2, ν2, y1, y2, y3, pNz_y y4, ?_⟩
  rcases y7 with o | b
  · exact Or.inl ⟨p2, by omega, o⟩
  · exact Or.inr (Or.inl ⟨p2, b⟩)
/-- a token that must stand there -/
theorem pq_expect {B : Nat → Nat} {len e t : Nat} {μ ν : zz_Mem} {F : zz_Mem → Option zz_Mem} (ht : t < 44) (ht1 : t ≠ 31) (ht2 : t ≠ 30) (hO : ∀ p1 m n, pOK B len p1 m n → F m = if pkK B len p1 = t then f_X7_next m else f_X7_fail 2 m) (hS : ∀ w p m, pSto B len w p m → F m = f_X7_fail 2 m) (h : pQm B len e μ ν) : ∃ μ2 ν2, F μ = some μ2 ∧ (∀ (τ : Type) (K : zz_Mem → Option τ), (zz_bnd (f_X12_eats (nI t) ν) fun r m => if r = 0 then zz_bndR (f_X12_fails 2 m) K else K m) = K ν2) ∧ pNx μ μ2 ∧ pNz ν ν2 ∧ pQm B len (e + 1) μ2 ν2 ∧ (μ2.1 30 7 = 0 → μ.1 30 7 = 0) := by
  rcases h with ⟨p, he, ho⟩ | ⟨p, hb⟩ | ⟨w, p, hf⟩
  · have e1 := hO p μ ν ho
    have e2 := pr_isO ho ht
    have e7 : μ.1 30 7 = 0 := ho.2.2.2.2.2.2.2.1
    by_cases c : pkK B len p = t
    · obtain ⟨μ2, ν2, y1, y2, y3, y4, y5⟩ := pq_next ho (by omega)
      refine ⟨μ2, ν2, by rw [e1, if_pos c, y1], fun τ K => ?_, y3, y4, pQm_w y5 (by omega), fun _ => e7⟩
      unfold f_X12_eats
      rw [e2, decide_eq_true c, pq_bndS, if_neg (show ¬ pd_b true = 0 by decide), y2, pq_bndS, pq_bnd2, if_neg (by decide)]
    · obtain ⟨μ2, ν2, y1, y2, y3, y4, y5⟩ := pj_failO ho (w := 2) (by omega)
      have y1' : f_X7_fail 2 μ = some μ2 := y1
      have y2' : f_X12_fails 2 ν = some ν2 := y2
      refine ⟨μ2, ν2, by rw [e1, if_neg c, y1'], fun τ K => ?_, y3, y4, Or.inr (Or.inr ⟨2, p, y5⟩), fun z => absurd z (pSto_n y5.1)⟩
      unfold f_X12_eats
      rw [e2, decide_eq_false c, pq_bndS, if_pos (show pd_b false = 0 from rfl), pq_bnd2, if_pos rfl, y2', pq_bndS]
  · obtain ⟨μ2, y1, y2, y3⟩ := pc_fail (w0 := 2) hb.1
    obtain ⟨ν2, z1, z2, z3, z4⟩ := pr_failB 2 hb
    have y1' : f_X7_fail 2 μ = some μ2 := y1
    have z1' : f_X12_fails 2 ν = some ν2 := z1
    refine ⟨μ2, ν2, by rw [hS _ _ _ hb.1, y1'], fun τ K => ?_, y2, z2, Or.inr (Or.inr ⟨1, p, y3, z3, z4⟩), fun z => absurd z (pSto_n y3)⟩
    unfold f_X12_eats
    rw [pr_isB hb ht ht1, pq_bndS, if_pos rfl, pq_bnd2, if_pos rfl, z1', pq_bndS]
  · obtain ⟨μ2, y1, y2, y3⟩ := pc_fail (w0 := 2) hf.1
    have y1' : f_X7_fail 2 μ = some μ2 := y1
    refine ⟨μ2, ν, by rw [hS _ _ _ hf.1, y1'], fun τ K => ?_, y2, pNz0 ν, Or.inr (Or.inr ⟨w, p, y3, hf.2⟩), fun z => absurd z (pSto_n y3)⟩
    rw [fx_eats (pFld_x hf), pq_bnd2, if_pos rfl, fx_fails (pFld_x hf), pq_bndS]
theorem pq_word {B : Nat → Nat} {len e w : Nat} {μ ν : zz_Mem} (hw : w < 29) (hw0 : 0 < w) (h : pQm B len e μ ν) : ∃ μ2 ν2, f_X7_takeWord w μ = some μ2 ∧ (∀ (τ : Type) (K : zz_Mem → Option τ), (zz_bnd (f_X12_eats (nI (pWk w)) ν) fun r m => if r = 0 then zz_bndR (f_X12_fails 2 m) K else K m) = K ν2) ∧ pNx μ μ2 ∧ pNz ν ν2 ∧ pQm B len (e + 1) μ2 ν2 ∧ (μ2.1 30 7 = 0 → μ.1 30 7 = 0) := by
  have k := (pw_wl w hw hw0).2
  exact pq_expect (t := pWk w) (by omega) (by omega) (by omega) (po_takeWord hw hw0) (fun v p m s => by
    unfold f_X7_takeWord
    rw [pc_isW0 s, pq_bndS, if_pos rfl, pu_bS]) h
theorem pq_sign {B : Nat → Nat} {len e i : Nat} {μ ν : zz_Mem} (hi : i < 12) (h : pQm B len e μ ν) : ∃ μ2 ν2, f_X7_takeSign (nI (pSg i)) μ = some μ2 ∧ (∀ (τ : Type) (K : zz_Mem → Option τ), (zz_bnd (f_X12_eats (nI (32 + i)) ν) fun r m => if r = 0 then zz_bndR (f_X12_fails 2 m) K else K m) = K ν2) ∧ pNx μ μ2 ∧ pNz ν ν2 ∧ pQm B len (e + 1) μ2 ν2 ∧ (μ2.1 30 7 = 0 → μ.1 30 7 = 0) := by
  have n3 : ∀ i, i < 12 → ¬ (3 : Int32) = nI (pSg i) := by decide +kernel
  exact pq_expect (t := 32 + i) (by omega) (by omega) (by omega) (po_takeSign hi) (fun v p m s => by
    unfold f_X7_takeSign
    rw [s.2.2.1, if_neg (n3 i hi), pu_bS]) h
/-- a number -/
theorem pq_number {B : Nat → Nat} {len e : Nat} {μ ν : zz_Mem} {c d c' d' : Int32} (h : pQm B len e μ ν) (hq : μ.1 30 7 = 0 → c' = c ∧ d' = d) : ∃ v μ2 v' ν2, f_X7_takeNumber c d μ = some (v, μ2) ∧ f_X12_takes c' d' ν = some (v', ν2) ∧ pNx μ μ2 ∧ pNz ν ν2 ∧ pQm B len (e + 1) μ2 ν2 ∧ (μ2.1 30 7 = 0 → μ.1 30 7 = 0 ∧ ∃ x, x < 1000 ∧ v = nI x ∧ v' = nI x ∧ c ≤ nI x ∧ nI x ≤ d) := by
  rcases h with ⟨p, he, ho⟩ | ⟨p, hb⟩ | ⟨w, p, hf⟩
  · have e7 : μ.1 30 7 = 0 := ho.2.2.2.2.2.2.2.1
    have e11 : ν.1 0 11 = 0 := ho.2.2.2.2.2.2.2.2.2.2.2.1
    obtain ⟨rfl, rfl⟩ := hq e7
    have hB : ∀ j, j < len → B j < 256 := fun j hj => (ho.1.2.1 j hj).1
    have t2 := po_n2 ho
    have i29 : f_X12_is ν 29 = some (pd_b (decide (pkK B len p = 29))) := pr_isO ho (k := 29) (by omega)
    unfold f_X7_takeNumber f_X7_takeNumber_31 f_X12_takes f_X12_takes_37
    rw [pq_letI, i29, pq_bndS]
    by_cases c1 : pkK B len p = 29
    · obtain ⟨v1, v2⟩ := ho.2.2.2.2.2.2.2.2.2.2.2.2 c1
      have hlt := po_num hB ho.2.2.1 c1
      generalize pVl B p (pkE B len p - p) = x at *
      rw [if_pos (t2.mpr c1), decide_eq_true c1, if_neg (show ¬ pd_b true = 0 by decide), v1, v2]
      by_cases cb : c' ≤ nI x ∧ nI x ≤ d'
      · obtain ⟨μ2, ν2, y1, y2, y3, y4, y5⟩ := pq_next ho (by omega)
        have n1 : ¬ nI x < c' := fun z => by
          have z1 := Int32.le_iff_toInt_le.mp cb.1
          rw [Int32.lt_iff_toInt_lt] at z
          omega
        rw [if_neg n1, if_pos cb.2, y1, pq_bndS]
        have hwi : f_X12_within (nI x).toInt64 c'.toInt64 d'.toInt64 = some 1 := by
          rcases pi_within (nI x).toInt64 c'.toInt64 d'.toInt64 with ⟨-, -, z⟩ | ⟨z, -⟩
          · exact z
          · rw [Int32.toInt_toInt64, Int32.toInt_toInt64, Int32.toInt_toInt64] at z
            have z1 := Int32.le_iff_toInt_le.mp cb.1
            have z2 := Int32.le_iff_toInt_le.mp cb.2
            omega
        rw [hwi, pq_bndS, if_neg (by decide), pq_letI, if_pos e11, y2, pq_bndS]
        exact ⟨_, μ2, _, ν2, rfl, rfl, y3, y4, pQm_w y5 (by omega), fun _ => ⟨e7, x, hlt, rfl, rfl, cb.1, cb.2⟩⟩
      · obtain ⟨μ2, ν2, y1, y2, y3, y4, y5⟩ := pj_failO ho (w := 3) (by omega)
        have y1' : f_X7_fail 3 μ = some μ2 := y1
        have y2' : f_X12_fails 3 ν = some ν2 := y2
        have hx := pFld_x y5
        have ec : (if nI x < c' then (zz_bndR (f_X7_fail 3 μ) fun m1 => some (nI x, m1)) else if nI x ≤ d' then (zz_bndR (f_X7_next μ) fun m2 => some (nI x, m2)) else (zz_bndR (f_X7_fail 3 μ) fun m1 => some (nI x, m1))) = some (nI x, μ2) := by
          by_cases q1 : nI x < c'
          · rw [if_pos q1, y1', pq_bndS]
          · rw [if_neg q1, if_neg (fun q2 => cb ⟨by rw [Int32.lt_iff_toInt_lt] at q1; rw [Int32.le_iff_toInt_le]; omega, q2⟩), y1', pq_bndS]
        rw [ec]
        have hwi : f_X12_within (nI x).toInt64 c'.toInt64 d'.toInt64 = some 0 := by
          rcases pi_within (nI x).toInt64 c'.toInt64 d'.toInt64 with ⟨z1, z2, -⟩ | ⟨-, z⟩
          · rw [Int32.toInt_toInt64, Int32.toInt_toInt64] at z1 z2
            exact absurd ⟨Int32.le_iff_toInt_le.mpr z1, Int32.le_iff_toInt_le.mpr z2⟩ cb
          · exact z
        rw [hwi, pq_bndS, if_pos rfl, y2', pq_bndS, pq_letI, if_neg hx]
        exact ⟨_, μ2, _, ν2, rfl, rfl, y3, y4, Or.inr (Or.inr ⟨3, p, y5⟩), fun z => absurd z (pSto_n y5.1)⟩
    · obtain ⟨μ2, ν2, y1, y2, y3, y4, y5⟩ := pj_failO ho (w := 2) (by omega)
      have y1' : f_X7_fail 2 μ = some μ2 := y1
      have y2' : f_X12_fails 2 ν = some ν2 := y2
      have hx := pFld_x y5
      rw [if_neg (fun z => c1 (t2.mp z)), y1', pq_bndS, decide_eq_false c1, if_pos (show pd_b false = 0 from rfl), y2', pq_bndS, pq_letI, if_neg hx]
      exact ⟨_, μ2, _, ν2, rfl, rfl, y3, y4, Or.inr (Or.inr ⟨2, p, y5⟩), fun z => absurd z (pSto_n y5.1)⟩
  · obtain ⟨μ2, y1, y2, y3⟩ := pc_fail (w0 := 2) hb.1
    obtain ⟨ν2, z1, z2, z3, z4⟩ := pr_failB 2 hb
    have y1' : f_X7_fail 2 μ = some μ2 := y1
    have z1' : f_X12_fails 2 ν = some ν2 := z1
    have hx : pFx ν2 := by unfold pFx; rw [z3]; exact pr_n0 (by omega)
    have i29 : f_X12_is ν 29 = some 0 := pr_isB hb (k := 29) (by omega) (by omega)
    unfold f_X7_takeNumber f_X12_takes f_X12_takes_37
    rw [pq_letI, hb.1.2.2.1, if_neg (by decide), y1', pq_bndS, i29, pq_bndS, if_pos rfl, z1', pq_bndS, pq_letI, if_neg hx]
    exact ⟨_, μ2, _, ν2, rfl, rfl, y2, z2, Or.inr (Or.inr ⟨1, p, y3, z3, z4⟩), fun z => absurd z (pSto_n y3)⟩
  · obtain ⟨μ2, y1, y2, y3⟩ := pc_fail (w0 := 2) hf.1
    have y1' : f_X7_fail 2 μ = some μ2 := y1
    have hx := pFld_x hf
    unfold f_X7_takeNumber
    rw [pq_letI, hf.1.2.2.1, if_neg (by decide), y1', pq_bndS, fx_takes hx]
    exact ⟨_, μ2, _, ν, rfl, rfl, y2, pNz0 ν, Or.inr (Or.inr ⟨w, p, y3, hf.2⟩), fun z => absurd z (pSto_n y3)⟩
/-- a word, and a number behind it -/
theorem pq_named {B : Nat → Nat} {len e w : Nat} {c d : Int32} {μ ν : zz_Mem} (hw : w < 29) (hw0 : 0 < w) (h : pQm B len e μ ν) : ∃ μ2 v μ3 v' ν3, f_X7_takeWord w μ = some μ2 ∧ f_X7_takeNumber c d μ2 = some (v, μ3) ∧ f_X12_named (nI (pWk w)) c d ν = some (v', ν3) ∧ pNx μ μ3 ∧ pNz ν ν3 ∧ pQm B len (e + 1) μ3 ν3 ∧ (μ3.1 30 7 = 0 → μ.1 30 7 = 0 ∧ ∃ x, x < 1000 ∧ v = nI x ∧ v' = nI x ∧ c ≤ nI x ∧ nI x ≤ d) := by
  obtain ⟨μ2, ν2, y1, y2, y3, y4, y5, y6⟩ := pq_word hw hw0 h
  obtain ⟨v, μ3, v', ν3, z1, z2, z3, z4, z5, z6⟩ := pq_number (c := c) (d := d) (c' := c) (d' := d) y5 (fun _ => ⟨rfl, rfl⟩)
  refine ⟨μ2, v, μ3, v', ν3, y1, z1, ?_, pNxT y3 z3, pNzT y4 z4, pQm_w z5 (by omega), fun q => ⟨y6 (z6 q).1, (z6 q).2⟩⟩
  unfold f_X12_named
  refine (y2 _ (fun z => f_X12_named_13 c d z)).trans ?_
  show f_X12_named_13 c d ν2 = _
  unfold f_X12_named_13
  rw [z2, pq_bnd2]
