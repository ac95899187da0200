/-! ===== 54: the class's picture of a desk; its calendar ===== -/
def pc_law (m : zz_Mem) (o : Nat) (a : Nat → Int32) (law sh : Nat) : Prop :=
  (a (6 + law) = 0 → m.1 (o + 7) (5 + 2 * law) = m.1 (o + 7) (4 + 2 * law)) ∧
  (a (6 + law) = 1 → m.1 (o + 7) (4 + 2 * law) = nI (pv_n a (8 + law)) ∧ m.1 (o + 7) (5 + 2 * law) = nI (pv_n a (8 + law) + pv_n a (10 + law)) ∧ ∀ j, j < pv_n a (10 + law) → m.1 (o + 8) (pv_n a (8 + law) + j) = pe_cm sh (a (277 + pv_n a (8 + law) + j)))
def pc_plan (m : zz_Mem) (o : Nat) (a : Nat → Int32) : Prop :=
  m.1 o 0 = a 1 ∧ m.1 o 1 = a 2 ∧ m.1 o 2 = a 0 ∧ m.1 o 3 = a 3 ∧ m.1 o 5 = a 4 ∧ m.1 o 10 = a 5 ∧
  (∀ k, k < pv_n a 3 → m.1 (o + 1) k = a (12 + k)) ∧
  (∀ i, i < pv_n a 4 → m.1 (o + 2) i = a (24 + i) ∧ m.1 (o + 3) i = a (32 + i) ∧ m.1 (o + 4) i = a (40 + i) ∧ m.1 (o + 5) i = a (48 + i)) ∧
  (∀ k, k < pv_n a 5 → m.1 (o + 6) k = a (56 + k)) ∧ pc_law m o a 0 0 ∧ pc_law m o a 1 5
/-- a stand at a cell: rates, the shift, amounts -/
def pc_stand (m : zz_Mem) (o nI' nF : Nat) (s : Nat → Int32) : Prop := m.1 o 2 = s 8 ∧ (∀ i, i < nI' → m.1 (o + 1) i = s i) ∧ ∀ k, k < nF → m.1 (o + 2) k = s (9 + k)
def pc_known (m : zz_Mem) (a : Nat → Int32) : Prop := ∀ j, j < 2048 → m.1 82 j = 0 ∨ m.1 82 j = (if pd_open a j then 2 else 1)
theorem pc_planF {L : List Nat} {m m' : zz_Mem} {o : Nat} {a : Nat → Int32} (h : pc_plan m o a) (f : pq_fr L m m') (hL : ∀ j, j < 9 → o + j ∉ L) : pc_plan m' o a := by
  have e0 : m'.1 o = m.1 o := (f o (hL 0 (by omega))).1
  have e : ∀ j, j < 9 → m'.1 (o + j) = m.1 (o + j) := fun j hj => (f (o + j) (hL j hj)).1
  obtain ⟨a1, a2, a3, a4, a5, a6, a7, a8, a9, a10, a11⟩ := h
  unfold pc_plan pc_law
  rw [e0, e 1 (by omega), e 2 (by omega), e 3 (by omega), e 4 (by omega), e 5 (by omega), e 6 (by omega), e 7 (by omega), e 8 (by omega)]
  exact ⟨a1, a2, a3, a4, a5, a6, a7, a8, a9, a10, a11⟩
theorem pc_standF {L : List Nat} {m m' : zz_Mem} {o p q : Nat} {s : Nat → Int32} (h : pc_stand m o p q s) (f : pq_fr L m m') (h0 : o ∉ L) (h1 : o + 1 ∉ L) (h2 : o + 2 ∉ L) : pc_stand m' o p q s := by
  unfold pc_stand
  rw [(f o h0).1, (f _ h1).1, (f _ h2).1]
  exact h
theorem pc_hol {a : Nat → Int32} {m : zz_Mem} {d H : Nat} (h3 : m.1 2 3 = nI H) (hH2 : H ≤ 12) (hh : ∀ k, k < H → m.1 3 k = a (12 + k)) : ∀ (r k fuel : Nat), k + r = H → r < fuel → pd_holF a d k = false → f_X6_isHoliday_2 m fuel (nI d) (nI k) = some (pd_b (pd_holF a d H)) := by
  intro r
  induction r with
  | zero =>
    intro k fuel h1 h2 hf
    obtain ⟨n, rfl⟩ : ∃ n, fuel = n + 1 := ⟨fuel - 1, by omega⟩
    have e : k = H := by omega
    subst e
    rw [f_X6_isHoliday_2, h3, if_pos (nI_le (Nat.le_refl _) (by omega)), hf]
    rfl
  | succ r ih =>
    intro k fuel h1 h2 hf
    obtain ⟨n, rfl⟩ : ∃ n, fuel = n + 1 := ⟨fuel - 1, by omega⟩
    have l12 : (12 : Int32) = nI 12 := rfl
    rw [f_X6_isHoliday_2, h3, if_neg (nI_ge (by omega) (by omega)), l12, if_neg (nI_ge (by omega) (by omega)), pq_ixE (by omega) (by decide), nI_clamp (by omega), hh k (by omega)]
    by_cases e : a (12 + k) = nI d
    · rw [if_pos e]
      have e1 : pd_holF a d (k + 1) = true := by rw [pd_holF, hf, decide_eq_true e]; rfl
      rw [pd_holM e1 (by omega)]
      rfl
    · rw [if_neg e, pq_letI, nI_1]
      have e1 : pd_holF a d (k + 1) = false := by rw [pd_holF, hf, decide_eq_false e]; rfl
      exact ih (k + 1) n (by omega) (by omega) e1
theorem pc_xor {a b : Nat} (ha : a < 2147483648) (hb : b < 2147483648) : (0 : Int32) ≤ nI a ^^^ nI b := by
  have key : ∀ n : Nat, n < 2147483648 → (nI n).toBitVec.msb = false := by
    intro n hn
    have e1 : (nI n).toBitVec.toInt = (nI n).toInt := rfl
    have e2 := nI_toInt (n := n) (by omega)
    rw [BitVec.msb_eq_toInt]
    simp only [decide_eq_false_iff_not]
    omega
  have hx : (nI a ^^^ nI b).toBitVec = (nI a).toBitVec ^^^ (nI b).toBitVec := rfl
  have hy : (nI a ^^^ nI b).toBitVec.msb = decide ((nI a ^^^ nI b).toInt < 0) := BitVec.msb_eq_toInt
  rw [hx, BitVec.msb_xor, key a ha, key b hb] at hy
  have hz0 : (0 : Int32).toInt = 0 := rfl
  rw [Int32.le_iff_toInt_le, hz0]
  have : ¬ (nI a ^^^ nI b).toInt < 0 := by simpa using hy
  omega
theorem pc_fmod {a b : Nat} (ha : a < 2147483648) (h0 : 0 < b) (hb : b < 2147483648) : f_J9_floorMod_7cf53 (nI a) (nI b) = some (nI (a % b)) := by
  unfold f_J9_floorMod_7cf53
  rw [pq_nzE (nI_ne0 h0 hb), pk_rem ha h0 hb, pq_letI, if_pos (pc_xor ha hb)]
theorem pc_rule {d : Nat} (hd : d < 20000) {a : Nat → Int32} {m : zz_Mem} (hv : pv_D a) (hp : pc_plan m 2 a) : ∃ m', f_X0_isOpenByRule (nI d) m = some (pd_b (pd_open a d), m') ∧ pq_fr [11, 12] m m' := by
  obtain ⟨-, v1, -, v3, -, -, -, vl, -, -⟩ := hv
  obtain ⟨p0, p1, p2, p3, p5, p10, ph, pi, pf, pr, po⟩ := hp
  have hfu : zz_fuel = 5000 := rfl
  have hH : f_X6_isHoliday m (nI d) = some (pd_b (pd_hol a d)) := by
    unfold f_X6_isHoliday
    have := v3.2
    have h := pc_hol (a := a) (m := m) (d := d) (H := pv_n a 3) (by rw [p3]; exact v3.1) v3.2 ph (pv_n a 3) 0 zz_fuel (by omega) (by omega) rfl
    rw [nI_0] at h
    exact h
  have l7 : (7 : Int32) = nI 7 := rfl
  have := v1.2
  have hw : f_J9_floorMod_7cf53 (m.1 2 0 + nI d) 7 = some (nI (pd_wk a d)) := by
    rw [p0, v1.1, nI_add, l7, pc_fmod (by omega) (by decide) (by decide)]
    rfl
  have w7 : pd_wk a d < 7 := Nat.mod_lt _ (by decide)
  unfold f_X0_isOpenByRule
  rw [hw, pq_bndS, hH, pq_bndS]
  rcases vl.1 with h7 | h7
  · have e1 := po.1 h7
    have e2 : f_X3_hasOpens m = some 0 := by
      unfold f_X3_hasOpens
      rw [if_pos (by rw [show m.1 9 7 = m.1 9 6 from e1]; exact Int32.le_refl _)]
    rw [e2, pq_bndS, if_pos rfl]
    refine ⟨m, ?_, pq_fr0 m⟩
    unfold pd_open
    rw [if_pos h7]
    have l5 : (5 : Int32) = nI 5 := rfl
    rw [l5]
    by_cases h5 : 5 ≤ pd_wk a d
    · rw [if_pos (nI_le h5 (by omega)), decide_eq_false (by omega)]
      rfl
    · rw [if_neg (nI_ge (by omega) (by omega)), decide_eq_true (by omega)]
      cases pd_hol a d <;> rfl
  · obtain ⟨c1, c2, c3, c4, c5⟩ := vl.2 h7
    obtain ⟨q1, q2, q3⟩ := po.2 h7
    have c3' : 0 < pv_n a 11 := c3
    have c4' : pv_n a 9 + pv_n a 11 ≤ 900 := c4
    have q1' : m.1 9 6 = nI (pv_n a 9) := q1
    have q2' : m.1 9 7 = nI (pv_n a 9 + pv_n a 11) := q2
    have e2 : f_X3_hasOpens m = some 1 := by
      unfold f_X3_hasOpens
      rw [q1', q2', if_neg (nI_ge (by omega) (by omega))]
    rw [e2, pq_bndS, if_neg (by decide), pq_letM]
    have h70 : ¬ a 7 = 0 := by rw [show a 7 = 1 from h7]; decide
    have key : ∀ hb : Bool, pd_hol a d = hb → ∃ m', f_X0_isOpenByRule_79 (nI d) (pd_b hb) 1 (zz_setI m 11 0 (nI (pd_wk a d))) = some (pd_b (pd_open a d), m') ∧ pq_fr [11, 12] m m' := by
      intro hb hh
      unfold f_X0_isOpenByRule_79
      have l1 : (1 : Int32) = nI 1 := rfl
      rw [l1, pq_ixE (by decide) (by decide), nI_clamp (by decide), pq_letM, pq_letM]
      generalize hm2 : zz_setI (zz_setI (zz_setI m 11 0 (nI (pd_wk a d))) 11 1 (pd_b hb)) 11 2 (nI d) = m2
      have f2 : pq_fr [11, 12] m m2 := by
        rw [← hm2]
        exact pq_frI (pq_frI (pq_frI (pq_fr0 m) _ _ (by simp)) _ _ (by simp)) _ _ (by simp)
      have r9 : m2.1 9 = m.1 9 := (f2 9 (by simp)).1
      have r10 : m2.1 10 = m.1 10 := (f2 10 (by simp)).1
      unfold f_X3_value
      rw [r9, q1', q2']
      obtain ⟨m', e1, e2⟩ := pe_cls (sh := 5) (hi := 8) (w := pd_w a d) (b := true) (N := pv_n a 9 + pv_n a 11) (by decide) (by decide) c4 (pd_codes a 1) (pv_n a 9) [] zz_fuel m2 (by rw [pd_codesL]; have := c2.2; omega) (by rw [pd_codesL]) (fun j hj => by rw [r10, pd_codesG]; exact q3 j (by rw [pd_codesL] at hj; exact hj)) (fun j a1 a2 => by
        rw [← hm2]
        have : j = 5 ∨ j = 6 ∨ j = 7 := by omega
        rcases this with rfl | rfl | rfl
        · simp [pz_Is, upd, pd_w]
        · simp [pz_Is, upd, pd_w, hh]
        · simp [pz_Is, upd, pd_w]) (by simp) c5 trivial
      have e0 : nI ([] : List Bool).length = 0 := rfl
      rw [e0] at e1
      rw [e1, pq_bnd2]
      refine ⟨m', ?_, pq_frT f2 (pq_frW e2 (by simp))⟩
      have ht := pe_evT (w := pd_w a d) (pd_codes a 1) [] (m2.1 12) c5 trivial
      have ev := pd_ev0 (w := pd_w a d) c5 (m2.1 12)
      simp only [List.length_nil] at ht
      unfold pd_open
      rw [if_neg h70, ← ev]
      show (if pe_ev (pd_w a d) (pd_codes a 1) 0 (m2.1 12) = 0 then _ else _) = _
      rcases ht with hq | hq
      · rw [hq, if_pos rfl, decide_eq_false (by decide)]; rfl
      · rw [hq, if_neg (by decide), decide_eq_true rfl]; rfl
    cases hh : pd_hol a d with
    | false =>
      rw [if_pos (show pd_b false = 0 from rfl)]
      exact key false hh
    | true =>
      rw [if_neg (by decide)]
      exact key true hh
theorem pc_open {d : Nat} (hd : d < 20000) {a : Nat → Int32} {m : zz_Mem} (hv : pv_D a) (hp : pc_plan m 2 a) (hk : pc_known m a) : ∃ m', f_X0_isOpen (nI d) m = some (pd_b (pd_open a d), m') ∧ pq_fr [11, 12, 82] m m' ∧ pc_known m' a := by
  obtain ⟨m1, e1, f1⟩ := pc_rule hd hv hp
  have f1' : pq_fr [11, 12, 82] m m1 := pq_frW f1 (by simp)
  have r82 : m1.1 82 = m.1 82 := (f1 82 (by simp)).1
  have hk1 : pc_known m1 a := by unfold pc_known; rw [r82]; exact hk
  have l0 : (0 : Int32) = nI 0 := rfl
  have l2048 : (2048 : Int32) = nI 2048 := rfl
  unfold f_X0_isOpen
  rw [if_neg (nI_pos (by omega)), l2048]
  by_cases hs : 2048 ≤ d
  · rw [if_pos (nI_le hs (by omega))]
    unfold f_X0_isOpen_18 f_X0_isOpen_48
    rw [if_pos rfl, e1, pq_bnd2, if_pos rfl, pq_boE (pd_bo _)]
    exact ⟨m1, rfl, f1', hk1⟩
  · rw [if_neg (nI_ge (by omega) (by omega))]
    unfold f_X0_isOpen_18
    rw [if_neg (by decide), pq_ixE (by omega) (by decide), nI_clamp (by omega)]
    by_cases h0 : m.1 82 d = 0
    · rw [if_pos h0]
      unfold f_X0_isOpen_48
      rw [e1, pq_bnd2, if_neg (by decide)]
      have key : ∀ (b : Bool) (v : Int32), pd_open a d = b → vp_nar .byte v.toInt8.toInt32 = (if b then 2 else 1) → ∃ m', f_X0_isOpen_72 (pd_b b) v (nI d) m1 = some (pd_b b, m') ∧ pq_fr [11, 12, 82] m m' ∧ pc_known m' a := by
        intro b v hb hv'
        unfold f_X0_isOpen_72
        rw [pq_ixE (by omega) (by decide), pq_letM, pq_boE (pd_bo _), nI_clamp (by omega)]
        refine ⟨_, rfl, pq_frI f1' _ _ (by simp), fun j hj => ?_⟩
        by_cases e : j = d
        · subst e
          right
          rw [qx_isE, hv', hb]
        · rw [qx_isN e]
          exact hk1 j hj
      cases hb : pd_open a d with
      | false => rw [if_pos (show pd_b false = 0 from rfl)]; exact key false 1 hb rfl
      | true => rw [if_neg (by decide)]; exact key true 2 hb rfl
    · rw [if_neg h0]
      have h2 := (hk d (by omega)).resolve_left h0
      refine ⟨m, ?_, pq_fr0 m, hk⟩
      rw [h2, pq_ixE (by omega) (by decide)]
      cases pd_open a d <;> rfl
theorem pc_off {d : Nat} (hd : d < 10000) {a : Nat → Int32} (hv : pv_D a) : ∀ (r k fuel : Nat) (m : zz_Mem), pc_plan m 2 a → pc_known m a → k + r = 31 → r < fuel → ∃ m', f_X0_putOff_2 fuel (nI d) (nI k) m = some (nI (pd_offF a d r), m') ∧ pq_fr [11, 12, 82] m m' ∧ pc_known m' a := by
  intro r
  induction r with
  | zero =>
    intro k fuel m hp hk h1 h2
    obtain ⟨n, rfl⟩ : ∃ n, fuel = n + 1 := ⟨fuel - 1, by omega⟩
    have l30 : (30 : Int32) = nI 30 := rfl
    rw [f_X0_putOff_2, l30, if_pos (nI_lt (by omega) (by omega))]
    exact ⟨m, rfl, pq_fr0 m, hk⟩
  | succ r ih =>
    intro k fuel m hp hk h1 h2
    obtain ⟨n, rfl⟩ : ∃ n, fuel = n + 1 := ⟨fuel - 1, by omega⟩
    have l30 : (30 : Int32) = nI 30 := rfl
    obtain ⟨m1, e1, f1, k1⟩ := pc_open (d := d + k) (by omega) hv hp hk
    have hp1 : pc_plan m1 2 a := pc_planF hp f1 (fun j hj => by simp <;> omega)
    rw [f_X0_putOff_2, l30, if_neg (nI_nlt (by omega) (by omega)), nI_add, e1, pq_bnd2, pd_offF, show 30 - r = k by omega]
    cases ho : pd_open a (d + k) with
    | true =>
      rw [if_neg (by decide), if_pos rfl]
      exact ⟨m1, rfl, f1, k1⟩
    | false =>
      rw [if_pos (show pd_b false = 0 from rfl), if_neg (by decide), pq_letI, nI_1]
      obtain ⟨m2, e2, f2, k2⟩ := ih (k + 1) n m1 hp1 k1 (by omega) (by omega)
      exact ⟨m2, e2, pq_frT f1 f2, k2⟩
theorem pc_putOff {d : Nat} (hd : d < 10000) {a : Nat → Int32} {m : zz_Mem} (hv : pv_D a) (hp : pc_plan m 2 a) (hk : pc_known m a) : ∃ m', f_X0_putOff (nI d) m = some (nI (pd_off a d), m') ∧ pq_fr [11, 12, 82] m m' ∧ pc_known m' a := by
  have h := pc_off hd hv 31 0 zz_fuel m hp hk (by omega) (by decide)
  rw [nI_0] at h
  exact h
/-- days put off: at most 30 more, and in order -/
theorem pd_offB (a : Nat → Int32) (d : Nat) : ∀ r, r ≤ 31 → d ≤ pd_offF a d r ∧ pd_offF a d r ≤ d + 30 := by
  intro r
  induction r with
  | zero => intro _; exact ⟨Nat.le_refl _, by show d ≤ d + 30; omega⟩
  | succ r ih =>
    intro h
    rw [pd_offF]
    split
    · omega
    · exact ih (by omega)
theorem pd_offC (a : Nat → Int32) (d : Nat) : ∀ r, r ≤ 31 → (pd_offF a d r = d ∧ ∀ j, 31 - r ≤ j → j ≤ 30 → pd_open a (d + j) = false) ∨ (d + (31 - r) ≤ pd_offF a d r ∧ pd_open a (pd_offF a d r) = true ∧ ∀ j, 31 - r ≤ j → d + j < pd_offF a d r → pd_open a (d + j) = false) := by
  intro r
  induction r with
  | zero => intro _; exact Or.inl ⟨rfl, fun j h1 h2 => by omega⟩
  | succ r ih =>
    intro h
    rw [pd_offF]
    cases ho : pd_open a (d + (30 - r)) with
    | true =>
      rw [if_pos rfl]
      exact Or.inr ⟨by omega, ho, fun j h1 h2 => by omega⟩
    | false =>
      rw [if_neg (by decide)]
      rcases ih (by omega) with ⟨h1, h2⟩ | ⟨h1, h2, h3⟩
      · refine Or.inl ⟨h1, fun j g1 g2 => ?_⟩
        by_cases e : j = 30 - r
        · rw [e]; exact ho
        · exact h2 j (by omega) g2
      · refine Or.inr ⟨by omega, h2, fun j g1 g2 => ?_⟩
        by_cases e : j = 30 - r
        · rw [e]; exact ho
        · exact h3 j (by omega) g2
theorem pd_offM (a : Nat → Int32) {d d' : Nat} (h : d ≤ d') : pd_off a d ≤ pd_off a d' := by
  unfold pd_off
  have b' := pd_offB a d' 31 (by omega)
  rcases pd_offC a d 31 (by omega) with ⟨h1, h2⟩ | ⟨h1, h2, h3⟩
  · omega
  · by_cases hc : pd_offF a d 31 ≤ d'
    · omega
    · have b := pd_offB a d 31 (by omega)
      rcases pd_offC a d' 31 (by omega) with ⟨g1, g2⟩ | ⟨g1, g2, g3⟩
      · have := g2 (pd_offF a d 31 - d') (by omega) (by omega)
        rw [show d' + (pd_offF a d 31 - d') = pd_offF a d 31 by omega, h2] at this
        exact absurd this (by decide)
      · by_cases hl : pd_offF a d 31 ≤ pd_offF a d' 31
        · exact hl
        · have := h3 (pd_offF a d' 31 - d) (by omega) (by omega)
          rw [show d + (pd_offF a d' 31 - d) = pd_offF a d' 31 by omega, g2] at this
          exact absurd this (by decide)
