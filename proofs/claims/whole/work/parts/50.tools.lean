/-! ===== 50: tools for the pure part: what is asked of a model, memories, numbers ===== -/
def pq_ok {τ : Type} (o : Option τ) (Q : τ → Prop) : Prop := ∃ q, o = some q ∧ Q q
section PQ
variable {τ ρ : Type} {Q : τ → Prop} {P : ρ → Prop}
theorem pq_some {q : τ} (h : Q q) : pq_ok (some q) Q := ⟨q, rfl, h⟩
theorem pq_mono {o : Option τ} {P : τ → Prop} (h : pq_ok o P) (k : ∀ q, P q → Q q) : pq_ok o Q := by
  obtain ⟨q, h1, h2⟩ := h
  exact ⟨q, h1, k q h2⟩
theorem pq_bndR {o : Option ρ} {K : ρ → Option τ} (h : pq_ok o P) (k : ∀ q, P q → pq_ok (K q) Q) : pq_ok (zz_bndR o K) Q := by
  obtain ⟨q, rfl, h2⟩ := h
  exact k q h2
theorem pq_bnd {P : ρ × zz_Mem → Prop} {o : Option (ρ × zz_Mem)} {K : ρ → zz_Mem → Option τ} (h : pq_ok o P) (k : ∀ r m, P (r, m) → pq_ok (K r m) Q) : pq_ok (zz_bnd o K) Q := by
  obtain ⟨q, rfl, h2⟩ := h
  exact k q.1 q.2 h2
theorem pq_bndE {o : Option ρ} {q : ρ} {K : ρ → Option τ} (h : o = some q) (k : pq_ok (K q) Q) : pq_ok (zz_bndR o K) Q := by
  subst h
  exact k
theorem pq_ix {i : Int32} {n : Nat} {f : Option τ} (h : vp_in i n) (k : pq_ok f Q) : pq_ok (zz_ix i n f) Q := by
  unfold zz_ix
  rw [if_neg h]
  exact k
theorem pq_ite {c : Prop} [Decidable c] {a b : Option τ} (h1 : c → pq_ok a Q) (h2 : ¬ c → pq_ok b Q) : pq_ok (if c then a else b) Q := by
  by_cases h : c
  · rw [if_pos h]; exact h1 h
  · rw [if_neg h]; exact h2 h
theorem pq_ixE {n k : Nat} {f : Option τ} (h : k < n) (hn : n < 2 ^ 31) : zz_ix (nI k) n f = f := by
  unfold zz_ix
  rw [if_neg (nI_in h hn)]
theorem pq_boE {v : Int32} {f : Option τ} (h : v = 0 ∨ v = 1) : zz_bo v f = f := by
  unfold zz_bo
  rw [if_pos h]
theorem pq_nzE {v : Int32} {f : Option τ} (h : ¬ v = 0) : zz_nz v f = f := by
  unfold zz_nz
  rw [if_neg h]
theorem pq_nzJE {v : Int64} {f : Option τ} (h : ¬ v = 0) : zz_nzJ v f = f := by
  unfold zz_nzJ
  rw [if_neg h]
theorem pq_letI (e : Int32) (K : Int32 → Option τ) : zz_letI e K = K e := rfl
theorem pq_letJ (e : Int64) (K : Int64 → Option τ) : zz_letJ e K = K e := rfl
theorem pq_letM (e : zz_Mem) (K : zz_Mem → Option τ) : zz_letM e K = K e := rfl
theorem pq_bndS (q : ρ) (K : ρ → Option τ) : zz_bndR (some q) K = K q := rfl
theorem pq_bnd2 (r : ρ) (m : zz_Mem) (K : ρ → zz_Mem → Option τ) : zz_bnd (some (r, m)) K = K r m := rfl
end PQ
/-! memories -/
theorem pz_Is (m : zz_Mem) (k i : Nat) (v : Int32) : (zz_setI m k i v).1 k = upd (m.1 k) i v := by simp [zz_setI, va_up]
theorem pz_In (m : zz_Mem) {k j : Nat} (i : Nat) (v : Int32) (h : j ≠ k) : (zz_setI m k i v).1 j = m.1 j := by simp [zz_setI, va_up, h]
theorem pz_IJ (m : zz_Mem) (k i : Nat) (v : Int32) : (zz_setI m k i v).2.1 = m.2.1 := rfl
theorem pz_IR (m : zz_Mem) (k i : Nat) (v : Int32) : (zz_setI m k i v).2.2 = m.2.2 := rfl
theorem pz_Js (m : zz_Mem) (k i : Nat) (v : Int64) : (zz_setJ m k i v).2.1 k = vp_updL (m.2.1 k) i v := by simp [zz_setJ, va_up]
theorem pz_Jn (m : zz_Mem) {k j : Nat} (i : Nat) (v : Int64) (h : j ≠ k) : (zz_setJ m k i v).2.1 j = m.2.1 j := by simp [zz_setJ, va_up, h]
theorem pz_JI (m : zz_Mem) (k i : Nat) (v : Int64) : (zz_setJ m k i v).1 = m.1 := rfl
theorem pz_JR (m : zz_Mem) (k i : Nat) (v : Int64) : (zz_setJ m k i v).2.2 = m.2.2 := rfl
theorem pz_RI (m : zz_Mem) (k i : Nat) (v : Option Nat) : (zz_setR m k i v).1 = m.1 := rfl
theorem pz_RJ (m : zz_Mem) (k i : Nat) (v : Option Nat) : (zz_setR m k i v).2.1 = m.2.1 := rfl
theorem pz_Rs (m : zz_Mem) (k i : Nat) (v : Option Nat) : (zz_setR m k i v).2.2 k = va_up (m.2.2 k) i v := by simp [zz_setR, va_up]
theorem pz_Rn (m : zz_Mem) {k j : Nat} (i : Nat) (v : Option Nat) (h : j ≠ k) : (zz_setR m k i v).2.2 j = m.2.2 j := by simp [zz_setR, va_up, h]
theorem pz_rs (m : zz_Mem) (k : Nat) (f : Nat → Int32) : (zz_rowI m k f).1 k = f := by simp [zz_rowI, va_up]
theorem pz_rn (m : zz_Mem) {k j : Nat} (f : Nat → Int32) (h : j ≠ k) : (zz_rowI m k f).1 j = m.1 j := by simp [zz_rowI, va_up, h]
theorem pz_rJ (m : zz_Mem) (k : Nat) (f : Nat → Int32) : (zz_rowI m k f).2.1 = m.2.1 := rfl
theorem pz_rR (m : zz_Mem) (k : Nat) (f : Nat → Int32) : (zz_rowI m k f).2.2 = m.2.2 := rfl
/-- which cells may have changed -/
def pq_fr (L : List Nat) (m m' : zz_Mem) : Prop := ∀ k, k ∉ L → m'.1 k = m.1 k ∧ m'.2.1 k = m.2.1 k ∧ m'.2.2 k = m.2.2 k
theorem pq_fr0 {L : List Nat} (m : zz_Mem) : pq_fr L m m := fun _ _ => ⟨rfl, rfl, rfl⟩
theorem pq_frT {L : List Nat} {m m1 m2 : zz_Mem} (h : pq_fr L m m1) (h2 : pq_fr L m1 m2) : pq_fr L m m2 := fun k hk => ⟨(h2 k hk).1.trans (h k hk).1, (h2 k hk).2.1.trans (h k hk).2.1, (h2 k hk).2.2.trans (h k hk).2.2⟩
theorem pq_frW {L L' : List Nat} {m m1 : zz_Mem} (h : pq_fr L m m1) (hs : ∀ k, k ∈ L → k ∈ L') : pq_fr L' m m1 := fun k hk => h k (fun z => hk (hs k z))
theorem pq_frI {L : List Nat} {m m1 : zz_Mem} {k : Nat} (h : pq_fr L m m1) (i : Nat) (v : Int32) (hk : k ∈ L) : pq_fr L m (zz_setI m1 k i v) := fun j hj => by
  have hn : j ≠ k := fun z => hj (z ▸ hk)
  exact ⟨(pz_In m1 i v hn).trans (h j hj).1, (h j hj).2.1, (h j hj).2.2⟩
theorem pq_frJ {L : List Nat} {m m1 : zz_Mem} {k : Nat} (h : pq_fr L m m1) (i : Nat) (v : Int64) (hk : k ∈ L) : pq_fr L m (zz_setJ m1 k i v) := fun j hj => by
  have hn : j ≠ k := fun z => hj (z ▸ hk)
  exact ⟨(h j hj).1, (pz_Jn m1 i v hn).trans (h j hj).2.1, (h j hj).2.2⟩
theorem pq_frr {L : List Nat} {m m1 : zz_Mem} {k : Nat} (h : pq_fr L m m1) (f : Nat → Int32) (hk : k ∈ L) : pq_fr L m (zz_rowI m1 k f) := fun j hj => by
  have hn : j ≠ k := fun z => hj (z ▸ hk)
  exact ⟨(pz_rn m1 f hn).trans (h j hj).1, (h j hj).2.1, (h j hj).2.2⟩
/-! numbers: whole numbers as ints and longs -/
def iI (x : Int) : Int32 := Int32.ofInt x
def lI (x : Int) : Int64 := Int64.ofInt x
theorem iI_nI (n : Nat) : nI n = iI (n : Int) := (Int32.ofInt_eq_ofNat).symm
theorem iI_of (x : Int32) : iI x.toInt = x := Int32.ofInt_toInt x
theorem lI_of (x : Int64) : lI x.toInt = x := Int64.ofInt_toInt x
theorem iI_t {x : Int} (h : -2147483648 ≤ x) (h2 : x < 2147483648) : (iI x).toInt = x := Int32.toInt_ofInt_of_le (by omega) (by omega)
theorem lI_t {x : Int} (h : -9223372036854775808 ≤ x) (h2 : x < 9223372036854775808) : (lI x).toInt = x := Int64.toInt_ofInt_of_le (by omega) (by omega)
theorem iI_add (a b : Int) : iI a + iI b = iI (a + b) := (Int32.ofInt_add a b).symm
theorem iI_sub (a b : Int) : iI a - iI b = iI (a - b) := (Int32.ofInt_sub a b).symm
theorem iI_mul (a b : Int) : iI a * iI b = iI (a * b) := (Int32.ofInt_mul a b).symm
theorem iI_neg (a : Int) : -iI a = iI (-a) := (Int32.ofInt_neg a).symm
theorem lI_add (a b : Int) : lI a + lI b = lI (a + b) := (Int64.ofInt_add a b).symm
theorem lI_sub (a b : Int) : lI a - lI b = lI (a - b) := (Int64.ofInt_sub a b).symm
theorem lI_mul (a b : Int) : lI a * lI b = lI (a * b) := (Int64.ofInt_mul a b).symm
theorem lI_neg (a : Int) : -lI a = lI (-a) := (Int64.ofInt_neg a).symm
theorem iI_l {a : Int} (h : -2147483648 ≤ a) (h2 : a < 2147483648) : (iI a).toInt64 = lI a := by
  apply Int64.toInt_inj.mp
  rw [Int32.toInt_toInt64, iI_t h h2, lI_t (by omega) (by omega)]
theorem lI_i (a : Int) : (lI a).toInt32 = iI a := Int64.toInt32_ofInt
theorem iI_le {a b : Int} (ha : -2147483648 ≤ a) (ha2 : a < 2147483648) (hb : -2147483648 ≤ b) (hb2 : b < 2147483648) : iI a ≤ iI b ↔ a ≤ b := by rw [Int32.le_iff_toInt_le, iI_t ha ha2, iI_t hb hb2]
theorem iI_lt {a b : Int} (ha : -2147483648 ≤ a) (ha2 : a < 2147483648) (hb : -2147483648 ≤ b) (hb2 : b < 2147483648) : iI a < iI b ↔ a < b := by rw [Int32.lt_iff_toInt_lt, iI_t ha ha2, iI_t hb hb2]
theorem iI_eq {a b : Int} (ha : -2147483648 ≤ a) (ha2 : a < 2147483648) (hb : -2147483648 ≤ b) (hb2 : b < 2147483648) : iI a = iI b ↔ a = b := by rw [← Int32.toInt_inj, iI_t ha ha2, iI_t hb hb2]
theorem lI_le {a b : Int} (ha : -9223372036854775808 ≤ a) (ha2 : a < 9223372036854775808) (hb : -9223372036854775808 ≤ b) (hb2 : b < 9223372036854775808) : lI a ≤ lI b ↔ a ≤ b := by rw [Int64.le_iff_toInt_le, lI_t ha ha2, lI_t hb hb2]
theorem lI_lt {a b : Int} (ha : -9223372036854775808 ≤ a) (ha2 : a < 9223372036854775808) (hb : -9223372036854775808 ≤ b) (hb2 : b < 9223372036854775808) : lI a < lI b ↔ a < b := by rw [Int64.lt_iff_toInt_lt, lI_t ha ha2, lI_t hb hb2]
theorem lI_eq {a b : Int} (ha : -9223372036854775808 ≤ a) (ha2 : a < 9223372036854775808) (hb : -9223372036854775808 ≤ b) (hb2 : b < 9223372036854775808) : lI a = lI b ↔ a = b := by rw [← Int64.toInt_inj, lI_t ha ha2, lI_t hb hb2]
theorem pq_nn {x : Int32} (h : 0 ≤ x.toInt) : x = nI x.toNatClampNeg := by
  apply Int32.toInt_inj.mp
  have h1 : (x.toNatClampNeg : Int) = x.toInt := Int.toNat_of_nonneg h
  have h2 := Int32.toNatClampNeg_lt x
  rw [nI_toInt h2, h1]
theorem pq_clT {x : Int32} (h : 0 ≤ x.toInt) : (x.toNatClampNeg : Int) = x.toInt := Int.toNat_of_nonneg h
/-- division by what is above 0, rounded down: both ways to write it -/
theorem pq_fl (p q : Int) (hq : 0 < q) : (p.tdiv q = p / q ∨ p.tdiv q = p / q + 1) ∧ (0 ≤ p → p.tdiv q = p / q) ∧ (p.tdiv q * q ≤ p ↔ p.tdiv q = p / q) ∧ (p.tdiv q * q = p → p.tdiv q = p / q) ∧ (p < 0 → p.tdiv q * q ≠ p → p.tdiv q = p / q + 1) := by
  have h1 := Int.mul_tdiv_add_tmod p q
  have h2 := Int.mul_ediv_add_emod p q
  have h3 := Int.emod_nonneg p (Int.ne_of_gt hq)
  have h4 := Int.emod_lt_of_pos p hq
  have hb : (Int.tmod p q).natAbs < q.natAbs := by rw [Int.natAbs_tmod]; exact Nat.mod_lt _ (by omega)
  have e1 : q * p.tdiv q = p.tdiv q * q := Int.mul_comm _ _
  by_cases hp : 0 ≤ p
  · have e : p.tdiv q = p / q := Int.tdiv_eq_ediv_of_nonneg hp
    rw [e]
    refine ⟨Or.inl rfl, fun _ => rfl, ⟨fun _ => rfl, fun _ => ?_⟩, fun _ => rfl, fun h => absurd hp (by omega)⟩
    rw [Int.mul_comm]; omega
  · have h5 : Int.tmod p q ≤ 0 := by
      have := Int.tmod_nonneg (a := -p) q (by omega)
      rw [Int.neg_tmod] at this
      omega
    have key : p.tdiv q = p / q ∧ Int.tmod p q = 0 ∨ p.tdiv q = p / q + 1 ∧ Int.tmod p q < 0 := by
      by_cases hz : Int.tmod p q = 0
      · left
        refine ⟨?_, hz⟩
        have : q * p.tdiv q = p := by omega
        rw [← this, Int.mul_ediv_cancel_left _ (Int.ne_of_gt hq)]
        rw [this]
      · right
        refine ⟨?_, by omega⟩
        have h6 : p = q * (p.tdiv q - 1) + (q + Int.tmod p q) := by rw [Int.mul_sub]; omega
        have h7 : p / q = p.tdiv q - 1 := by
          conv => lhs; rw [h6]
          rw [Int.mul_add_ediv_left _ _ (Int.ne_of_gt hq), Int.ediv_eq_zero_of_lt (by omega) (by omega)]
          omega
        omega
    rcases key with ⟨k1, k2⟩ | ⟨k1, k2⟩
    · refine ⟨Or.inl k1, fun h => absurd h hp, ⟨fun _ => k1, fun _ => by omega⟩, fun _ => k1, fun _ h => absurd ?_ h⟩
      omega
    · refine ⟨Or.inr k1, fun h => absurd h hp, ⟨fun h => ?_, fun h => ?_⟩, fun h => ?_, fun _ _ => k1⟩
      · omega
      · omega
      · omega
theorem pq_Jdiv {p q : Int64} (hq : 0 < q.toInt) : (p / q).toInt = p.toInt.tdiv q.toInt := by
  apply Int64.toInt_div_of_ne_right
  intro e
  rw [e] at hq
  exact absurd hq (by decide)
theorem pq_floorOf {p q : Int64} (hq : 0 < q.toInt) : f_X12_floorOf p q = some (lI (p.toInt / q.toInt)) := by
  unfold f_X12_floorOf
  have hz : ¬ q = 0 := fun e => by rw [e] at hq; exact absurd hq (by decide)
  have hd := pq_Jdiv (p := p) hq
  obtain ⟨k1, k2, k3, -, -⟩ := pq_fl p.toInt q.toInt hq
  have b1 := Int64.le_toInt p
  have b2 := Int64.toInt_lt p
  have hm : (p / q * q).toInt = p.toInt.tdiv q.toInt * q.toInt := by
    rw [Int64.toInt_mul, hd]
    have h1 := Int.mul_tdiv_add_tmod p.toInt q.toInt
    have e1 : q.toInt * p.toInt.tdiv q.toInt = p.toInt.tdiv q.toInt * q.toInt := Int.mul_comm _ _
    have h4 : (Int.tmod p.toInt q.toInt).natAbs ≤ p.toInt.natAbs := by rw [Int.natAbs_tmod]; exact Nat.mod_le _ _
    have h5 : 0 ≤ p.toInt → 0 ≤ Int.tmod p.toInt q.toInt := fun h => Int.tmod_nonneg _ h
    have h6 : p.toInt < 0 → Int.tmod p.toInt q.toInt ≤ 0 := fun h => by
      have a1 := Int.tmod_nonneg (a := -p.toInt) q.toInt (by omega)
      rw [Int.neg_tmod] at a1
      omega
    rcases Int.lt_or_le p.toInt 0 with h | h
    · have := h6 h
      apply Int.bmod_eq_of_le <;> omega
    · have := h5 h
      apply Int.bmod_eq_of_le <;> omega
  rw [pq_nzJE hz, pq_letJ]
  by_cases hc : p / q * q ≤ p
  · rw [if_pos hc]
    rw [Int64.le_iff_toInt_le, hm] at hc
    rw [← k3.mp hc, ← hd, lI_of]
  · rw [if_neg hc]
    rw [Int64.le_iff_toInt_le, hm] at hc
    have e : p.toInt.tdiv q.toInt = p.toInt / q.toInt + 1 := by
      rcases k1 with k | k
      · exact absurd (k3.mpr k) hc
      · exact k
    have e2 : p / q = lI (p.toInt / q.toInt + 1) := by rw [← e, ← hd, lI_of]
    have e3 : (1 : Int64) = lI 1 := rfl
    rw [e2, e3, lI_sub]
    congr 2
    omega
theorem pq_floorDiv {p q : Int64} (hq : 0 < q.toInt) : f_J9_floorDiv_f86c9 p q = some (lI (p.toInt / q.toInt)) := by
  have h0 := pq_floorOf (p := p) hq
  unfold f_X12_floorOf at h0
  unfold f_J9_floorDiv_f86c9
  have hz : ¬ q = 0 := fun e => by rw [e] at hq; exact absurd hq (by decide)
  rw [pq_nzJE hz, pq_letJ] at h0 ⊢
  have hs : (0 : Int64) ≤ p ^^^ q ↔ 0 ≤ p.toInt := by
    have hqm : q.toBitVec.msb = false := by
      have : q.toBitVec.toInt = q.toInt := rfl
      rw [BitVec.msb_eq_toInt]
      simp only [decide_eq_false_iff_not]
      omega
    have hpm : p.toBitVec.msb = decide (p.toInt < 0) := BitVec.msb_eq_toInt
    have hx : (p ^^^ q).toBitVec = p.toBitVec ^^^ q.toBitVec := rfl
    have hy : (p ^^^ q).toBitVec.msb = decide ((p ^^^ q).toInt < 0) := BitVec.msb_eq_toInt
    rw [hx, BitVec.msb_xor, hqm, hpm] at hy
    have hz0 : (0 : Int64).toInt = 0 := rfl
    rw [Int64.le_iff_toInt_le, hz0]
    have h9 : (p.toInt < 0) ↔ ((p ^^^ q).toInt < 0) := by
      have : decide (p.toInt < 0) = decide ((p ^^^ q).toInt < 0) := by simpa using hy
      simpa using this
    omega
  obtain ⟨k1, k2, k3, k4, k5⟩ := pq_fl p.toInt q.toInt hq
  have hd := pq_Jdiv (p := p) hq
  by_cases hc : (0 : Int64) ≤ p ^^^ q
  · rw [if_pos hc, ← k2 (hs.mp hc), ← hd, lI_of]
  · rw [if_neg hc]
    by_cases he : p / q * q = p
    · rw [if_pos he]
      rw [he, if_pos (Int64.le_refl p)] at h0
      exact h0
    · rw [if_neg he]
      by_cases hle : p / q * q ≤ p
      · exfalso
        rw [if_pos hle] at h0
        have e1 : p / q = lI (p.toInt / q.toInt) := Option.some.inj h0
        have e2 : p.toInt.tdiv q.toInt = p.toInt / q.toInt := by
          have b1 := Int64.le_toInt (p / q)
          have b2 := Int64.toInt_lt (p / q)
          rcases k1 with k | k
          · exact k
          · have e9 : lI (p.toInt / q.toInt) = lI (p.toInt.tdiv q.toInt) := by rw [← e1, ← hd, lI_of]
            have hb : (p.toInt / q.toInt).natAbs ≤ p.toInt.natAbs := by
              have g1 := Int.mul_ediv_add_emod p.toInt q.toInt
              have g2 := Int.emod_nonneg p.toInt (Int.ne_of_gt hq)
              have g3 := Int.emod_lt_of_pos p.toInt hq
              exact Int.natAbs_ediv_le_natAbs _ _
            have b3 := Int64.le_toInt p
            have b4 := Int64.toInt_lt p
            have e10 : (lI (p.toInt / q.toInt)).toInt = (lI (p.toInt.tdiv q.toInt)).toInt := by rw [e9]
            rw [hd] at b1 b2
            rw [lI_t (by omega) (by omega), lI_t (by omega) (by omega)] at e10
            exact e10.symm
        have hm : p.toInt.tdiv q.toInt * q.toInt = p.toInt := by
          by_cases hm : p.toInt.tdiv q.toInt * q.toInt = p.toInt
          · exact hm
          · have := k5 (by rw [hs] at hc; omega) hm
            omega
        apply he
        apply Int64.toInt_inj.mp
        rw [Int64.toInt_mul, hd, hm]
        exact Int.bmod_eq_of_le (by have := Int64.le_toInt p; omega) (by have := Int64.toInt_lt p; omega)
      · rw [if_neg hle] at h0
        exact h0
