/-! ===== 99h: atoms ===== -/
/-- the word's number in a law, by its key -/
def pWd (sh k : Nat) : Option Nat := if sh = 0 then (if k = 19 then some 0 else if k = 20 then some 1 else if k = 21 then some 2 else if k = 3 then some 3 else if k = 22 then some 4 else none) else (if k = 23 then some 5 else if k = 4 then some 6 else if k = 24 then some 7 else none)
theorem pWd_w : ∀ k, k < 44 → ∀ m : zz_Mem, f_X12_wordOf_12 m (nI k) 1 = some (match pWd 0 k with | some r => nI r | none => -1) ∧ f_X12_wordOf_12 m (nI k) 0 = some (match pWd 5 k with | some r => nI r | none => -1) := by
  intro k hk m
  have : ∀ k, k < 44 → f_X12_wordOf_12 zz_mem0M (nI k) 1 = some (match pWd 0 k with | some r => nI r | none => -1) ∧ f_X12_wordOf_12 zz_mem0M (nI k) 0 = some (match pWd 5 k with | some r => nI r | none => -1) := by decide +kernel
  exact this k hk
theorem pWd_0 : ∀ k, k < 44 → ∀ r, r < 8 → pWd 0 k = some r → r < 5 ∧ k ≤ 28 ∧ k ≠ 15 := by decide +kernel
theorem pWd_5 : ∀ k, k < 44 → ∀ r, r < 8 → pWd 5 k = some r → 5 ≤ r ∧ k ≤ 28 ∧ k ≠ 15 := by decide +kernel
theorem pWd_lt {sh k r : Nat} (h : pWd sh k = some r) : r < 8 := by
  unfold pWd at h
  repeat' split at h
  all_goals first | (simp only [Option.some.injEq] at h; omega) | exact absurd h (by simp)
theorem pi_nm1 {r : Nat} (h : r < 8) : ¬ nI r = (-1 : Int32) := fun e => by
  have e2 : (nI r).toInt = (-1 : Int32).toInt := by rw [e]
  rw [nI_toInt (by omega)] at e2
  have e1 : (-1 : Int32).toInt = -1 := rfl
  rw [e1] at e2
  omega
theorem pc_var {B : Nat → Nat} {len sh lo hi p : Nat} {m n : zz_Mem} (hlw : pLw sh lo hi m n) (ho : pOK B len p m n) : (∀ r, pWd sh (pkK B len p) = some r → f_X7_readVariable m = zz_bndR (f_X3_add (nI (1000 + r - sh)) m) fun m1 => zz_bndR (f_X7_next m1) fun m2 => some m2) ∧ (pWd sh (pkK B len p) = none → f_X7_readVariable m = f_X7_fail 2 m) := by
  have w : ∀ v, v < 29 → 0 < v → f_X7_isWord v m = some (pd_b (decide (pkK B len p = pWk v))) := fun v h1 h2 => pc_isW ho h1 h2
  have w22 : f_X7_isWord 22 m = some (pd_b (decide (pkK B len p = 19))) := w 22 (by omega) (by omega)
  have w23 : f_X7_isWord 23 m = some (pd_b (decide (pkK B len p = 20))) := w 23 (by omega) (by omega)
  have w24 : f_X7_isWord 24 m = some (pd_b (decide (pkK B len p = 21))) := w 24 (by omega) (by omega)
  have w4 : f_X7_isWord 4 m = some (pd_b (decide (pkK B len p = 3))) := w 4 (by omega) (by omega)
  have w25 : f_X7_isWord 25 m = some (pd_b (decide (pkK B len p = 22))) := w 25 (by omega) (by omega)
  have w26 : f_X7_isWord 26 m = some (pd_b (decide (pkK B len p = 23))) := w 26 (by omega) (by omega)
  have w5 : f_X7_isWord 5 m = some (pd_b (decide (pkK B len p = 4))) := w 5 (by omega) (by omega)
  have w27 : f_X7_isWord 27 m = some (pd_b (decide (pkK B len p = 24))) := w 27 (by omega) (by omega)
  have t1 : ∀ {x y : Option Int32}, (if pd_b true = 0 then x else y) = y := fun {x y} => if_neg (by decide)
  have t0 : ∀ {x y : Option Int32}, (if pd_b false = 0 then x else y) = x := fun {x y} => if_pos rfl
  generalize pkK B len p = t at *
  unfold f_X7_readVariable f_X7_readVariable_18
  rcases hlw with ⟨rfl, -, -, e9, -⟩ | ⟨rfl, -, -, e9, -⟩
  · have e : f_X7_ratesVariable m = some (match pWd 0 t with | some r => nI r | none => -1) := by
      unfold f_X7_ratesVariable pWd
      rw [w22, w23, w24, w4, w25]
      simp only [pq_bndS]
      by_cases c1 : t = 19
      · subst c1; rfl
      · rw [decide_eq_false c1, t0]
        by_cases c2 : t = 20
        · subst c2; rfl
        · rw [decide_eq_false c2, t0]
          by_cases c3 : t = 21
          · subst c3; rfl
          · rw [decide_eq_false c3, t0]
            by_cases c4 : t = 3
            · subst c4; rfl
            · rw [decide_eq_false c4, t0]
              by_cases c5 : t = 22
              · subst c5; rfl
              · rw [decide_eq_false c5, t0, if_pos trivial, if_neg c1, if_neg c2, if_neg c3, if_neg c4, if_neg c5]
    rw [e9, if_neg (by decide), e, pq_bndS]
    refine ⟨fun r hr => ?_, fun hr => ?_⟩
    · rw [hr]
      have l1000 : (1000 : Int32) = nI 1000 := rfl
      show (if nI r = -1 then _ else _) = _
      rw [if_neg (pi_nm1 (pWd_lt hr)), l1000, nI_add, Nat.sub_zero]
    · rw [hr]
      show (if (-1 : Int32) = -1 then _ else _) = _
      rw [if_pos rfl, pu_bS]
  · have e : f_X7_opensVariable m = some (match pWd 5 t with | some r => nI (r - 5) | none => -1) := by
      unfold f_X7_opensVariable pWd
      rw [w26, w5, w27]
      simp only [pq_bndS]
      by_cases c1 : t = 23
      · subst c1; rfl
      · rw [decide_eq_false c1, t0]
        by_cases c2 : t = 4
        · subst c2; rfl
        · rw [decide_eq_false c2, t0]
          by_cases c3 : t = 24
          · subst c3; rfl
          · rw [decide_eq_false c3, t0, if_neg (by decide), if_neg c1, if_neg c2, if_neg c3]
    rw [e9, if_pos rfl, e, pq_bndS]
    refine ⟨fun r hr => ?_, fun hr => ?_⟩
    · rw [hr]
      have l1000 : (1000 : Int32) = nI 1000 := rfl
      have hlt := pWd_lt hr
      have h5 : 5 ≤ r := by
        unfold pWd at hr
        rw [if_neg (by decide)] at hr
        repeat' split at hr
        all_goals first | (simp only [Option.some.injEq] at hr; omega) | exact absurd hr (by simp)
      show (if nI (r - 5) = -1 then _ else _) = _
      rw [if_neg (pi_nm1 (by omega)), l1000, nI_add, show 1000 + (r - 5) = 1000 + r - 5 by omega]
    · rw [hr]
      show (if (-1 : Int32) = -1 then _ else _) = _
      rw [if_pos rfl, pu_bS]
