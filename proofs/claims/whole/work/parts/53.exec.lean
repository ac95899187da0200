/-! ===== 53: a small set of rules to run models by simp ===== -/
theorem qx_lit (n : Nat) : (@OfNat.ofNat Int32 n Int32.instOfNat) = nI n := rfl
theorem qx_litJ (n : Nat) : (@OfNat.ofNat Int64 n Int64.instOfNat) = lI (n : Int) := (Int64.ofInt_eq_ofNat).symm
theorem qx_le {a b : Nat} (ha : a < 2147483648) (hb : b < 2147483648) : (nI a ≤ nI b) = (a ≤ b) := propext (nI_leI ha hb)
theorem qx_lt {a b : Nat} (ha : a < 2147483648) (hb : b < 2147483648) : (nI a < nI b) = (a < b) := propext (nI_ltI ha hb)
theorem qx_eq {a b : Nat} (ha : a < 2147483648) (hb : b < 2147483648) : (nI a = nI b) = (a = b) := propext (nI_eq ha hb)
theorem qx_ix {τ : Type} {k n : Nat} {f : Option τ} (h : k < n) (hn : n < 2147483648) : zz_ix (nI k) n f = f := pq_ixE h hn
theorem qx_cl {k : Nat} (h : k < 2147483648) : (nI k).toNatClampNeg = k := nI_clamp h
theorem qx_sub {a b : Nat} (h : b ≤ a) : nI a - nI b = nI (a - b) := pk_sub h
theorem qx_subn {a b : Nat} (h : b ≤ a) : nI a + -nI b = nI (a - b) := by rw [← pk_sub h, Int32.sub_eq_add_neg]
theorem qx_div {a d : Nat} (ha : a < 2147483648) (h0 : 0 < d) (hd : d < 2147483648) : nI a / nI d = nI (a / d) := pk_div ha h0 hd
theorem qx_nl {a : Nat} (h : a < 2147483648) : (nI a).toInt64 = lI (a : Int) := by
  rw [iI_nI, iI_l (by omega) (by omega)]
theorem qx_sl {a b : Nat} (h : a < 2147483648) (h2 : b < 2147483648) : (nI a - nI b).toInt64 = lI ((a : Int) - (b : Int)) := by
  rw [iI_nI, iI_nI, iI_sub, iI_l (by omega) (by omega)]
theorem qx_il {a : Int} (h : -2147483648 ≤ a) (h2 : a < 2147483648) : (iI a).toInt64 = lI a := iI_l h h2
theorem qx_ile {a b : Int} (ha : -2147483648 ≤ a) (ha2 : a < 2147483648) (hb : -2147483648 ≤ b) (hb2 : b < 2147483648) : (iI a ≤ iI b) = (a ≤ b) := propext (iI_le ha ha2 hb hb2)
theorem qx_ilt {a b : Int} (ha : -2147483648 ≤ a) (ha2 : a < 2147483648) (hb : -2147483648 ≤ b) (hb2 : b < 2147483648) : (iI a < iI b) = (a < b) := propext (iI_lt ha ha2 hb hb2)
theorem qx_ieq {a b : Int} (ha : -2147483648 ≤ a) (ha2 : a < 2147483648) (hb : -2147483648 ≤ b) (hb2 : b < 2147483648) : (iI a = iI b) = (a = b) := propext (iI_eq ha ha2 hb hb2)
theorem qx_lle {a b : Int} (ha : -9223372036854775808 ≤ a) (ha2 : a < 9223372036854775808) (hb : -9223372036854775808 ≤ b) (hb2 : b < 9223372036854775808) : (lI a ≤ lI b) = (a ≤ b) := propext (lI_le ha ha2 hb hb2)
theorem qx_llt {a b : Int} (ha : -9223372036854775808 ≤ a) (ha2 : a < 9223372036854775808) (hb : -9223372036854775808 ≤ b) (hb2 : b < 9223372036854775808) : (lI a < lI b) = (a < b) := propext (lI_lt ha ha2 hb hb2)
theorem qx_leq {a b : Int} (ha : -9223372036854775808 ≤ a) (ha2 : a < 9223372036854775808) (hb : -9223372036854775808 ≤ b) (hb2 : b < 9223372036854775808) : (lI a = lI b) = (a = b) := propext (lI_eq ha ha2 hb hb2)
theorem qx_fO {p q : Int} (hp : -9223372036854775808 ≤ p) (hp2 : p < 9223372036854775808) (hq : 0 < q) (hq2 : q < 9223372036854775808) : f_X12_floorOf (lI p) (lI q) = some (lI (p / q)) := by
  have e1 := lI_t hp hp2
  have e2 : (lI q).toInt = q := lI_t (by omega) hq2
  rw [pq_floorOf (by omega), e1, e2]
theorem qx_fD {p q : Int} (hp : -9223372036854775808 ≤ p) (hp2 : p < 9223372036854775808) (hq : 0 < q) (hq2 : q < 9223372036854775808) : f_J9_floorDiv_f86c9 (lI p) (lI q) = some (lI (p / q)) := by
  have e1 := lI_t hp hp2
  have e2 : (lI q).toInt = q := lI_t (by omega) hq2
  rw [pq_floorDiv (by omega), e1, e2]
theorem qx_isE {m : zz_Mem} {k i : Nat} {v : Int32} : (zz_setI m k i v).1 k i = v := by rw [pz_Is]; exact pk_us
theorem qx_isN {m : zz_Mem} {k i j : Nat} {v : Int32} (h : j ≠ i) : (zz_setI m k i v).1 k j = m.1 k j := by rw [pz_Is]; exact pk_un h
theorem qx_jsE {m : zz_Mem} {k i : Nat} {v : Int64} : (zz_setJ m k i v).2.1 k i = v := by rw [pz_Js]; exact pk_uLs
theorem qx_jsN {m : zz_Mem} {k i j : Nat} {v : Int64} (h : j ≠ i) : (zz_setJ m k i v).2.1 k j = m.2.1 k j := by rw [pz_Js]; exact pk_uLn h
theorem qx_in {m : zz_Mem} {k j : Nat} {i : Nat} {v : Int32} (h : j ≠ k) : (zz_setI m k i v).1 j = m.1 j := pz_In m i v h
theorem qx_jn {m : zz_Mem} {k j : Nat} {i : Nat} {v : Int64} (h : j ≠ k) : (zz_setJ m k i v).2.1 j = m.2.1 j := pz_Jn m i v h
theorem qx_bo0 {τ : Type} {f : Option τ} : zz_bo (nI 0) f = f := pq_boE (Or.inl rfl)
theorem qx_bo1 {τ : Type} {f : Option τ} : zz_bo (nI 1) f = f := pq_boE (Or.inr rfl)
theorem qx_m1 : (-1 : Int32) = iI (-1) := rfl
/-- which pillar stands at a day -/
def pa_at (day : Nat → Nat) (d : Nat) : Nat → Nat
  | 0 => 0
  | k + 1 => if day (k + 1) ≤ d then k + 1 else pa_at day d k
theorem pa_atL (day : Nat → Nat) (d : Nat) : ∀ L, pa_at day d L ≤ L
  | 0 => Nat.le_refl _
  | k + 1 => by
    rw [pa_at]
    split
    · exact Nat.le_refl _
    · exact Nat.le_succ_of_le (pa_atL day d k)
theorem pa_atC (day : Nat → Nat) (d : Nat) (h0 : day 0 = 0) : ∀ L, day (pa_at day d L) ≤ d ∧ (∀ j, pa_at day d L < j → j ≤ L → d < day j)
  | 0 => ⟨by rw [pa_at, h0]; exact Nat.zero_le _, fun j h1 h2 => by omega⟩
  | k + 1 => by
    rw [pa_at]
    split
    · exact ⟨by assumption, fun j h1 h2 => by omega⟩
    · obtain ⟨i1, i2⟩ := pa_atC day d h0 k
      refine ⟨i1, fun j h1 h2 => ?_⟩
      by_cases e : j = k + 1
      · subst e; omega
      · exact i2 j h1 (by omega)
def pa_fa (cv : Bool) (day : Nat → Nat) (L : Nat) (F : Nat → Int) (d : Nat) : Int :=
  if pa_at day d L = L ∨ cv = true then F (pa_at day d L) else F (pa_at day d L) + ((F (pa_at day d L + 1) - F (pa_at day d L)) * ((d : Int) - (day (pa_at day d L) : Int))) / ((day (pa_at day d L + 1) : Int) - (day (pa_at day d L) : Int))
/-- days of pillars: DAY 0 first, rising -/
def pa_D (day : Nat → Nat) (L : Nat) : Prop := day 0 = 0 ∧ L ≤ 8 ∧ (∀ k, k ≤ L → day k < 20000) ∧ ∀ k, k < L → day k < day (k + 1)
def pa_F (F : Nat → Int) (L : Nat) : Prop := ∀ k, k ≤ L → 0 ≤ F k ∧ F k ≤ 1000000000
theorem pa_mul {x w s : Int} (hx : -1000000000 ≤ x) (hx2 : x ≤ 1000000000) (hw : 0 ≤ w) (hw2 : w ≤ 40000) : -40000000000000 ≤ x * w ∧ x * w ≤ 40000000000000 := by
  rcases Int.le_total 0 x with h | h
  · have h1 : 0 ≤ x * w := Int.mul_nonneg h hw
    have h2 : x * w ≤ 1000000000 * 40000 := Int.mul_le_mul hx2 hw2 hw (by omega)
    omega
  · have h1 : 0 ≤ (-x) * w := Int.mul_nonneg (by omega) hw
    have h2 : (-x) * w ≤ 1000000000 * 40000 := Int.mul_le_mul (by omega) hw2 hw (by omega)
    rw [Int.neg_mul] at h1 h2
    omega
/-- between two: the line lies between their factors -/
theorem pa_line {A B w s : Int} (hw : 0 ≤ w) (hs : w < s) : (A ≤ B → A ≤ A + (B - A) * w / s ∧ A + (B - A) * w / s ≤ B) ∧ (B ≤ A → B ≤ A + (B - A) * w / s ∧ A + (B - A) * w / s ≤ A) := by
  have hs0 : 0 < s := by omega
  constructor
  · intro h
    have h1 : 0 ≤ (B - A) * w := Int.mul_nonneg (by omega) hw
    have h2 : 0 ≤ (B - A) * w / s := Int.ediv_nonneg h1 (by omega)
    have h3 : (B - A) * w / s ≤ B - A := by
      apply Int.ediv_le_of_le_mul hs0
      exact Int.mul_le_mul_of_nonneg_left (by omega) (by omega)
    omega
  · intro h
    have h1 : 0 ≤ (A - B) * w := Int.mul_nonneg (by omega) hw
    have e : (B - A) * w = -((A - B) * w) := by rw [← Int.neg_mul]; congr 1; omega
    have h2 : (B - A) * w / s ≤ 0 := by
      apply Int.ediv_le_of_le_mul hs0
      omega
    have h3 : B - A ≤ (B - A) * w / s := by
      apply (Int.le_ediv_iff_mul_le hs0).mpr
      have : (A - B) * w ≤ (A - B) * s := Int.mul_le_mul_of_nonneg_left (by omega) (by omega)
      have e2 : (B - A) * s = -((A - B) * s) := by rw [← Int.neg_mul]; congr 1; omega
      omega
    omega
theorem pa_faB {cv : Bool} {day : Nat → Nat} {L : Nat} {F : Nat → Int} {d : Nat} (hD : pa_D day L) (hF : pa_F F L) : 0 ≤ pa_fa cv day L F d ∧ pa_fa cv day L F d ≤ 1000000000 := by
  unfold pa_fa
  have hk := pa_atL day d L
  obtain ⟨c1, c2⟩ := pa_atC day d hD.1 L
  generalize pa_at day d L = k at *
  have h1 := hF k hk
  split
  · exact h1
  · rename_i hn
    have hkL : k < L := by
      have : ¬ k = L := fun e => hn (Or.inl e)
      omega
    have h2 := hF (k + 1) (by omega)
    have h3 := hD.2.2.2 k hkL
    have h4 := c2 (k + 1) (by omega) (by omega)
    obtain ⟨l1, l2⟩ := pa_line (A := F k) (B := F (k + 1)) (w := (d : Int) - (day k : Int)) (s := (day (k + 1) : Int) - (day k : Int)) (by omega) (by omega)
    rcases Int.le_total (F k) (F (k + 1)) with h | h
    · have := l1 h; omega
    · have := l2 h; omega
/-- the class's -/
theorem pa_cAt {m : zz_Mem} {day : Nat → Nat} {d L : Nat} (hD : pa_D day L) (hd : d < 20000) (h2 : ∀ k, k ≤ L → m.1 79 k = nI (day k)) : ∀ k fuel, k ≤ L → k < fuel → f_X8_pillarAt_7 m fuel (nI d) (nI k) = some (nI (pa_at day d k)) := by
  intro k
  induction k with
  | zero =>
    intro fuel hk hf
    obtain ⟨n, rfl⟩ : ∃ n, fuel = n + 1 := ⟨fuel - 1, by omega⟩
    rw [f_X8_pillarAt_7, if_pos (show nI 0 ≤ 0 by decide)]
    rfl
  | succ k ih =>
    intro fuel hk hf
    obtain ⟨n, rfl⟩ : ∃ n, fuel = n + 1 := ⟨fuel - 1, by omega⟩
    have hL := hD.2.1
    have hdk := hD.2.2.1 (k + 1) hk
    have hm := h2 (k + 1) hk
    simp (disch := omega) only [f_X8_pillarAt_7, qx_lit, qx_le, if_neg, pa_at, qx_ix, qx_cl, hm, zz_letI, qx_subn, Nat.add_sub_cancel, ih]
    split <;> rfl
theorem pa_cPillarAt {m : zz_Mem} {day : Nat → Nat} {d L : Nat} (hD : pa_D day L) (hd : d < 20000) (h1 : m.1 72 8 = nI (L + 1)) (h2 : ∀ k, k ≤ L → m.1 79 k = nI (day k)) : f_X8_pillarAt m (nI d) = some (nI (pa_at day d L)) := by
  have hL := hD.2.1
  have hf : zz_fuel = 5000 := rfl
  have h := pa_cAt hD hd h2 L zz_fuel (Nat.le_refl _) (by omega)
  simp (disch := omega) only [f_X8_pillarAt, h1, qx_lit, qx_sub, Nat.add_sub_cancel, zz_letI, h]
/-- the reference's -/
theorem pa_rAt {m : zz_Mem} {day : Nat → Nat} {d L : Nat} (hD : pa_D day L) (hd : d < 20000) (h2 : ∀ k, k ≤ L → m.1 13 k = nI (day k)) : ∀ k fuel, k ≤ L → k < fuel → f_X12_pillarAt_7 m fuel (nI d) (nI k) = some (nI (pa_at day d k)) := by
  intro k
  induction k with
  | zero =>
    intro fuel hk hf
    obtain ⟨n, rfl⟩ : ∃ n, fuel = n + 1 := ⟨fuel - 1, by omega⟩
    have hm := h2 0 hk
    have h0 := hD.1
    rw [h0] at hm
    simp (disch := omega) only [f_X12_pillarAt_7, qx_ix, qx_cl, hm, qx_le, if_pos, pa_at]
  | succ k ih =>
    intro fuel hk hf
    obtain ⟨n, rfl⟩ : ∃ n, fuel = n + 1 := ⟨fuel - 1, by omega⟩
    have hL := hD.2.1
    have hdk := hD.2.2.1 (k + 1) hk
    have hm := h2 (k + 1) hk
    simp (disch := omega) only [f_X12_pillarAt_7, qx_lit, qx_le, pa_at, qx_ix, qx_cl, hm, zz_letI, qx_subn, Nat.add_sub_cancel, ih]
    split <;> rfl
theorem pa_rPillarAt {m : zz_Mem} {day : Nat → Nat} {d L : Nat} (hD : pa_D day L) (hd : d < 20000) (h1 : m.1 0 28 = nI (L + 1)) (h2 : ∀ k, k ≤ L → m.1 13 k = nI (day k)) : f_X12_pillarAt m (nI d) = some (nI (pa_at day d L)) := by
  have hL := hD.2.1
  have hf : zz_fuel = 5000 := rfl
  have h := pa_rAt hD hd h2 L zz_fuel (Nat.le_refl _) (by omega)
  simp (disch := omega) only [f_X12_pillarAt, h1, qx_lit, qx_sub, Nat.add_sub_cancel, zz_letI, h]
theorem pa_cFactorAt {o : Nat} {m : zz_Mem} {day : Nat → Nat} {F : Nat → Int} {cv : Bool} {d L : Nat} (hD : pa_D day L) (hF : pa_F F L) (hd : d < 20000) (h1 : m.1 72 8 = nI (L + 1)) (h2 : ∀ k, k ≤ L → m.1 79 k = nI (day k)) (h3 : ∀ k, k ≤ L → m.1 (o + 2) k = iI (F k)) (h4 : m.1 2 1 = if cv then 1 else 0) : f_X1_factorAt o m (nI d) = some (iI (pa_fa cv day L F d)) := by
  have hp := pa_cPillarAt hD hd h1 h2
  have hk := pa_atL day d L
  obtain ⟨c1, c2⟩ := pa_atC day d hD.1 L
  unfold f_X1_factorAt pa_fa
  rw [hp, pq_bndS, h1, h4]
  generalize pa_at day d L = k at *
  have hL := hD.2.1
  have g1 := hF k hk
  have g2 := h2 k hk
  have g3 := h3 k hk
  have g4 := hD.2.2.1 k hk
  by_cases e : k = L
  · subst e
    simp (disch := omega) only [qx_lit, nI_add, qx_le, if_pos, qx_ix, qx_cl, g3, true_or, if_true]
  · have hkL : k < L := by omega
    have i1 := hF (k + 1) (by omega)
    have i2 := h2 (k + 1) (by omega)
    have i3 := h3 (k + 1) (by omega)
    have i4 := hD.2.2.1 (k + 1) (by omega)
    have i5 := hD.2.2.2 k hkL
    have i6 := c2 (k + 1) (by omega) (by omega)
    cases cv with
    | true => simp (disch := omega) only [qx_lit, nI_add, qx_le, if_neg, if_pos, qx_ix, qx_cl, g3, or_true, if_true]
    | false =>
      have b := pa_mul (x := F (k + 1) - F k) (w := (d : Int) - (day k : Int)) (s := 0) (by omega) (by omega) (by omega) (by omega)
      simp (disch := omega) only [qx_lit, nI_add, qx_le, if_neg, if_pos, qx_ix, qx_cl, g3, i3, g2, i2, qx_sl, qx_eq, zz_letJ, qx_litJ, qx_llt, iI_sub, qx_il, lI_mul, qx_fD, pq_bndS, lI_i, iI_add, e, Bool.false_eq_true, or_self, if_false]
theorem pa_rFactorAt {m : zz_Mem} {day : Nat → Nat} {F : Nat → Int} {cv : Bool} {d L : Nat} (hD : pa_D day L) (hF : pa_F F L) (hd : d < 20000) (h1 : m.1 0 28 = nI (L + 1)) (h2 : ∀ k, k ≤ L → m.1 13 k = nI (day k)) (h3 : ∀ k, k ≤ L → m.1 14 k = iI (F k)) (h4 : m.1 1 2 = if cv then 1 else 0) : f_X12_factorAt m (nI d) = some (iI (pa_fa cv day L F d)) := by
  have hp := pa_rPillarAt hD hd h1 h2
  have hk := pa_atL day d L
  obtain ⟨c1, c2⟩ := pa_atC day d hD.1 L
  unfold f_X12_factorAt pa_fa
  rw [hp, pq_bndS, h1, h4]
  generalize pa_at day d L = k at *
  have hL := hD.2.1
  have g1 := hF k hk
  have g2 := h2 k hk
  have g3 := h3 k hk
  have g4 := hD.2.2.1 k hk
  by_cases e : k = L
  · subst e
    simp (disch := omega) only [qx_lit, qx_sub, qx_eq, Nat.add_sub_cancel, if_pos, qx_ix, qx_cl, g3, true_or, if_true]
  · have hkL : k < L := by omega
    have i1 := hF (k + 1) (by omega)
    have i2 := h2 (k + 1) (by omega)
    have i3 := h3 (k + 1) (by omega)
    have i4 := hD.2.2.1 (k + 1) (by omega)
    have i5 := hD.2.2.2 k hkL
    have i6 := c2 (k + 1) (by omega) (by omega)
    cases cv with
    | true => simp (disch := omega) only [qx_lit, qx_sub, nI_add, qx_eq, Nat.add_sub_cancel, if_neg, if_pos, qx_ix, qx_cl, g3, or_true, if_true]
    | false =>
      have b := pa_mul (x := F (k + 1) - F k) (w := (d : Int) - (day k : Int)) (s := 0) (by omega) (by omega) (by omega) (by omega)
      simp (disch := omega) only [qx_lit, qx_sub, Nat.add_sub_cancel, nI_add, qx_eq, if_neg, if_pos, qx_ix, qx_cl, g3, i3, g2, i2, zz_letJ, iI_sub, qx_il, lI_mul, e, Bool.false_eq_true, or_self, if_false]
      simp (disch := omega) only [qx_nl, qx_sl, lI_mul, qx_fO, pq_bndS, lI_i, iI_add, Int.natCast_sub, Int.ofNat_sub]
