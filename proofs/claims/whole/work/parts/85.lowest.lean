/-! ===== 85: lowest terms ===== -/
theorem pu_rem {p q : Int} (hp : -9223372036854775808 < p) (hp2 : p < 9223372036854775808) (hq : -9223372036854775808 < q) (hq2 : q < 9223372036854775808) : lI p - lI p / lI q * lI q = lI (p.tmod q) := by
  have e1 : (lI p).toInt = p := lI_t (by omega) hp2
  have e2 : (lI q).toInt = q := lI_t (by omega) hq2
  have em : Int64.minValue.toInt = -9223372036854775808 := rfl
  have ed : lI p / lI q = lI (p.tdiv q) := by
    rw [← lI_of (lI p / lI q), Int64.toInt_div_of_ne_left _ _ (show lI p ≠ Int64.minValue from fun e => by rw [e] at e1; omega), e1, e2]
  rw [ed, lI_mul, lI_sub]
  exact congrArg lI (by rw [Int.tmod_def, Int.mul_comm])
theorem pu_half {b r : Nat} (hr : 0 < r) (h : r ≤ b) : 2 * (b % r) < b := by
  have h1 := Nat.mod_lt b hr
  have h2 : b % r = (b - r) % r := Nat.mod_eq_sub_mod h
  have h3 := Nat.mod_le (b - r) r
  omega
theorem pu_gcd (a b : Nat) : Nat.gcd a b = Nat.gcd b (a % b) := by
  rw [Nat.gcd_comm a b, Nat.gcd_rec, Nat.gcd_comm]
theorem pu_lI0 {q : Int} (h : -9223372036854775808 < q) (h2 : q < 9223372036854775808) : lI q = (0 : Int64) ↔ q = 0 := by
  have l : (0 : Int64) = lI 0 := rfl
  rw [l, lI_eq (by omega) h2 (by omega) (by omega)]
theorem pu_bS {ρ : Type} (o : Option ρ) : zz_bndR o (fun r => some r) = o := by cases o <;> rfl
theorem pu_c0 (fu : Nat) {p : Int} (hp : -9223372036854775808 < p) (hp2 : p < 9223372036854775808) : grp_common (fu + 1) 0 (lI p) (lI 0) = some (lI (p.natAbs : Int)) := by
  show f_X12_common (grp_common fu) (lI p) (lI 0) = _
  unfold f_X12_common
  have l : (0 : Int64) = lI 0 := rfl
  rw [if_pos (show lI 0 = (0 : Int64) from rfl), l]
  by_cases c : 0 ≤ p
  · rw [if_pos (lI_leT c (by omega) hp2)]
    exact congrArg (fun z => some (lI z)) (by omega)
  · rw [if_neg (lI_leF (by omega) (by omega) (by omega)), lI_neg]
    exact congrArg (fun z => some (lI z)) (by omega)
theorem pu_c1 (fu : Nat) {p q : Int} (hp : -9223372036854775808 < p) (hp2 : p < 9223372036854775808) (hq : -9223372036854775808 < q) (hq2 : q < 9223372036854775808) (h0 : q ≠ 0) : grp_common (fu + 1) 0 (lI p) (lI q) = grp_common fu 0 (lI q) (lI (p.tmod q)) := by
  show f_X12_common (grp_common fu) (lI p) (lI q) = _
  unfold f_X12_common
  have hn : ¬ lI q = (0 : Int64) := fun e => h0 ((pu_lI0 hq hq2).mp e)
  rw [if_neg hn, pq_nzJE hn, pu_rem hp hp2 hq hq2, pu_bS]
theorem pu_mb {p q : Int} (hq : -9223372036854775808 < q) (hq2 : q < 9223372036854775808) (h0 : q ≠ 0) : (p.tmod q).natAbs = p.natAbs % q.natAbs ∧ -9223372036854775808 < p.tmod q ∧ p.tmod q < 9223372036854775808 := by
  have h := Int.natAbs_tmod p q
  have h2 := Nat.mod_lt p.natAbs (show 0 < q.natAbs by omega)
  omega
theorem pu_com : ∀ (t fuel : Nat) (p q : Int), -9223372036854775808 < p → p < 9223372036854775808 → -9223372036854775808 < q → q < 9223372036854775808 → q.natAbs < 2 ^ t → 2 * t + 1 ≤ fuel → grp_common fuel 0 (lI p) (lI q) = some (lI ((Nat.gcd p.natAbs q.natAbs : Nat) : Int)) := by
  have zero : ∀ (fuel : Nat) (p : Int), -9223372036854775808 < p → p < 9223372036854775808 → 1 ≤ fuel → grp_common fuel 0 (lI p) (lI 0) = some (lI ((Nat.gcd p.natAbs (0 : Int).natAbs : Nat) : Int)) := by
    intro fuel p hp hp2 h
    obtain ⟨fu, rfl⟩ : ∃ n, fuel = n + 1 := ⟨fuel - 1, by omega⟩
    rw [pu_c0 fu hp hp2, show (0 : Int).natAbs = 0 from rfl, Nat.gcd_zero_right]
  intro t
  induction t with
  | zero =>
    intro fuel p q hp hp2 hq hq2 h1 h2
    obtain rfl : q = 0 := by omega
    exact zero fuel p hp hp2 (by omega)
  | succ t ih =>
    intro fuel p q hp hp2 hq hq2 h1 h2
    by_cases c : q = 0
    · subst c; exact zero fuel p hp hp2 (by omega)
    · obtain ⟨fu, rfl⟩ : ∃ n, fuel = n + 2 := ⟨fuel - 2, by omega⟩
      obtain ⟨b1, b2, b3⟩ := pu_mb (p := p) hq hq2 c
      rw [pu_c1 _ hp hp2 hq hq2 c, pu_gcd, ← b1]
      generalize hr : p.tmod q = r at *
      by_cases c2 : r = 0
      · subst c2; exact zero _ q hq hq2 (by omega)
      · obtain ⟨d1, d2, d3⟩ := pu_mb (p := q) b2 b3 c2
        rw [pu_c1 _ hq hq2 b2 b3 c2, pu_gcd, ← d1]
        have hl := Nat.mod_lt p.natAbs (show 0 < q.natAbs by omega)
        have hh := pu_half (b := q.natAbs) (r := r.natAbs) (by omega) (by omega)
        exact ih fu r (q.tmod r) b2 b3 d2 d3 (by rw [d1]; rw [Nat.pow_succ] at h1; omega) (by omega)
theorem pu_l0 (fu : Nat) (v0 v2 : Int64) (v4 : Int32) (a : Int64) (k : Nat) : f_X4_inLowestTerms_12 (fu + 1) v0 v2 v4 a (lI 0) (nI k) = f_X4_inLowestTerms_47 v0 v2 v4 a := by
  rw [f_X4_inLowestTerms_12, if_pos (show lI 0 ≤ (0 : Int64) from Int64.le_refl _)]
  split <;> rfl
theorem pu_l1 (fu : Nat) (v0 v2 : Int64) (v4 : Int32) {a b k : Nat} (ha : a < 9223372036854775808) (hb : b < 9223372036854775808) (h0 : 0 < b) (hk : k < 100) : f_X4_inLowestTerms_12 (fu + 1) v0 v2 v4 (lI (a : Int)) (lI (b : Int)) (nI k) = f_X4_inLowestTerms_12 fu v0 v2 v4 (lI (b : Int)) (lI ((a % b : Nat) : Int)) (nI (k + 1)) := by
  have l100 : (100 : Int32) = nI 100 := rfl
  have l0 : (0 : Int64) = lI 0 := rfl
  have hn : ¬ lI (b : Int) = (0 : Int64) := fun e => by
    have := (pu_lI0 (q := (b : Int)) (by omega) (by omega)).mp e
    omega
  rw [f_X4_inLowestTerms_12, l100, if_neg (nI_ge (by omega) (by omega)), l0, if_neg (lI_leF (by omega) (by omega) (by omega)), pq_nzJE hn, pu_rem (by omega) (by omega) (by omega) (by omega), pq_letJ, pq_letI, nI_1]
  rw [Int.tmod_eq_emod_of_nonneg (by omega)]
  rfl
theorem pu_low (v0 v2 : Int64) (v4 : Int32) : ∀ (t fuel a b k : Nat), a < 9223372036854775808 → b < 9223372036854775808 → b < 2 ^ t → 2 * t + 1 ≤ fuel → k + 2 * t ≤ 100 → f_X4_inLowestTerms_12 fuel v0 v2 v4 (lI (a : Int)) (lI (b : Int)) (nI k) = f_X4_inLowestTerms_47 v0 v2 v4 (lI ((Nat.gcd a b : Nat) : Int)) := by
  have zero : ∀ (fuel a k : Nat), 1 ≤ fuel → f_X4_inLowestTerms_12 fuel v0 v2 v4 (lI (a : Int)) (lI ((0 : Nat) : Int)) (nI k) = f_X4_inLowestTerms_47 v0 v2 v4 (lI ((Nat.gcd a 0 : Nat) : Int)) := by
    intro fuel a k h
    obtain ⟨fu, rfl⟩ : ∃ n, fuel = n + 1 := ⟨fuel - 1, by omega⟩
    rw [Nat.gcd_zero_right]
    exact pu_l0 fu v0 v2 v4 _ k
  intro t
  induction t with
  | zero =>
    intro fuel a b k ha hb h1 h2 h3
    obtain rfl : b = 0 := by omega
    exact zero fuel a k (by omega)
  | succ t ih =>
    intro fuel a b k ha hb h1 h2 h3
    by_cases c : b = 0
    · subst c; exact zero fuel a k (by omega)
    · obtain ⟨fu, rfl⟩ : ∃ n, fuel = n + 2 := ⟨fuel - 2, by omega⟩
      have hl := Nat.mod_lt a (show 0 < b by omega)
      rw [pu_l1 _ v0 v2 v4 ha hb (by omega) (by omega), pu_gcd]
      generalize a % b = r at *
      by_cases c2 : r = 0
      · subst c2; exact zero _ b _ (by omega)
      · rw [pu_l1 _ v0 v2 v4 hb (by omega) (by omega) (by omega), pu_gcd]
        have hh := pu_half (b := b) (r := r) (by omega) (by omega)
        exact ih fu r (b % r) _ (by omega) (by omega) (by rw [Nat.pow_succ] at h1; omega) (by omega) (by omega)
/-- both bring to lowest terms -/
theorem pu_terms {x : Int} {w : Nat} (hx : -9223372036854775808 < x) (hx2 : x < 9223372036854775808) (hw : 0 < w) (hw2 : w ≤ 1000) : ∃ g : Int64, ¬ g = 0 ∧ F_X12_common (lI x) (lI (w : Int)) = some g ∧ f_X4_inLowestTerms (lI x) (lI (w : Int)) 0 = some (lI x / g) ∧ f_X4_inLowestTerms (lI x) (lI (w : Int)) 1 = some (lI (w : Int) / g) := by
  have hfu : zz_fuel = 5000 := rfl
  have l0 : (0 : Int64) = lI 0 := rfl
  have g0 : 0 < Nat.gcd x.natAbs w := Nat.gcd_pos_of_pos_right _ hw
  have g1 : Nat.gcd x.natAbs w ≤ w := Nat.gcd_le_right _ hw
  have hn : ¬ lI ((Nat.gcd x.natAbs w : Nat) : Int) = (0 : Int64) := fun e => by
    have := (pu_lI0 (by omega) (by omega)).mp e
    omega
  have low : ∀ p : Int32, f_X4_inLowestTerms (lI x) (lI (w : Int)) p = f_X4_inLowestTerms_47 (lI x) (lI (w : Int)) p (lI ((Nat.gcd x.natAbs w : Nat) : Int)) := by
    intro p
    have h := pu_low (lI x) (lI (w : Int)) p 10 zz_fuel x.natAbs w 0 (by omega) (by omega) (by omega) (by omega) (by omega)
    rw [nI_0] at h
    rw [← h]
    unfold f_X4_inLowestTerms f_J9_abs_067f4
    rw [l0]
    by_cases c : 0 ≤ x
    · rw [if_pos (lI_leT c (by omega) hx2), pq_bndS, show ((x.natAbs : Nat) : Int) = x by omega]
    · rw [if_neg (lI_leF (by omega) (by omega) (by omega)), lI_neg, pq_bndS, show ((x.natAbs : Nat) : Int) = -x by omega]
  have hpos : (0 : Int64) < lI ((Nat.gcd x.natAbs w : Nat) : Int) := by rw [l0]; exact lI_ltT (by omega) (by omega) (by omega)
  refine ⟨_, hn, ?_, ?_, ?_⟩
  · have h := pu_com 10 200 x (w : Int) hx hx2 (by omega) (by omega) (by omega) (by omega)
    exact h
  · rw [low, f_X4_inLowestTerms_47, if_pos hpos, if_pos rfl, f_X4_inLowestTerms_68, pq_nzJE hn]
  · rw [low, f_X4_inLowestTerms_47, if_pos hpos, if_neg (by decide), f_X4_inLowestTerms_68, pq_nzJE hn]
