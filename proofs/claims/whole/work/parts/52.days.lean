/-! ===== 52: days: which are open, days put off; the picture of a desk (a row of numbers, as the reference holds it) ===== -/
def pv_n (a : Nat → Int32) (k : Nat) : Nat := (a k).toNatClampNeg
def pv_nn (a : Nat → Int32) (k B : Nat) : Prop := a k = nI (pv_n a k) ∧ pv_n a k ≤ B
def pd_codes (a : Nat → Int32) (law : Nat) : List Int32 := (List.range (pv_n a (10 + law))).map (fun j => a (277 + pv_n a (8 + law) + j))
/-- a law: told or not; its codes are well made -/
def pv_law (a : Nat → Int32) (law lo hi : Nat) (b : Bool) : Prop := (a (6 + law) = 0 ∨ a (6 + law) = 1) ∧ (a (6 + law) = 1 → pv_nn a (8 + law) 900 ∧ pv_nn a (10 + law) 900 ∧ 0 < pv_n a (10 + law) ∧ pv_n a (8 + law) + pv_n a (10 + law) ≤ 900 ∧ pe_wf lo hi b (pd_codes a law) [])
def pv_in (a : Nat → Int32) (i : Nat) : Prop := pv_nn a (24 + i) 2 ∧ pv_nn a (32 + i) 998 ∧ pv_nn a (40 + i) 999 ∧ pv_nn a (48 + i) 999 ∧ pv_n a (32 + i) < pv_n a (40 + i) ∧ (pv_n a (24 + i) = 2 → 30 ≤ pv_n a (48 + i)) ∧ (pv_n a (24 + i) ≠ 2 → pv_n a (48 + i) = 0) ∧ (pv_n a (24 + i) ≠ 1 → pv_n a (32 + i) = 0)
def pv_st (a : Nat → Int32) : Prop := (∀ i, i < pv_n a 4 → pv_nn a (66 + i) 999) ∧ pv_nn a 74 9 ∧ (∀ k, k < pv_n a 5 → -999 ≤ (a (75 + k)).toInt ∧ (a (75 + k)).toInt ≤ 999)
def pv_D (a : Nat → Int32) : Prop := pv_nn a 0 2000 ∧ pv_nn a 1 6 ∧ pv_nn a 2 1 ∧ pv_nn a 3 12 ∧ pv_nn a 4 8 ∧ pv_nn a 5 10 ∧ pv_law a 0 0 5 false ∧ pv_law a 1 5 8 true ∧ (∀ i, i < pv_n a 4 → pv_in a i) ∧ (∀ k, k < pv_n a 5 → pv_nn a (56 + k) 999)
def pd_holF (a : Nat → Int32) (d : Nat) : Nat → Bool
  | 0 => false
  | k + 1 => pd_holF a d k || decide (a (12 + k) = nI d)
def pd_hol (a : Nat → Int32) (d : Nat) : Bool := pd_holF a d (pv_n a 3)
def pd_wk (a : Nat → Int32) (d : Nat) : Nat := (pv_n a 1 + d) % 7
def pd_b (b : Bool) : Int32 := if b then 1 else 0
def pd_w (a : Nat → Int32) (d : Nat) : Nat → Int32 := fun j => if j = 5 then nI (pd_wk a d) else if j = 6 then pd_b (pd_hol a d) else nI d
def pd_open (a : Nat → Int32) (d : Nat) : Bool := if a 7 = 0 then (decide (pd_wk a d < 5) && !pd_hol a d) else decide (pe_ev (pd_w a d) (pd_codes a 1) 0 (fun _ => 0) = 1)
theorem pd_b0 (b : Bool) : pd_b b = 0 ↔ b = false := by cases b <;> decide
theorem pd_bo (b : Bool) : pd_b b = 0 ∨ pd_b b = 1 := by cases b <;> decide
theorem pd_bor (b c : Bool) : pd_b b ||| pd_b c = pd_b (b || c) := by cases b <;> cases c <;> decide
theorem pd_codesL (a : Nat → Int32) (law : Nat) : (pd_codes a law).length = pv_n a (10 + law) := by simp [pd_codes]
theorem pd_codesG (a : Nat → Int32) (law j : Nat) (h : j < (pd_codes a law).length) : (pd_codes a law)[j] = a (277 + pv_n a (8 + law) + j) := by simp [pd_codes]
theorem pd_holM {a : Nat → Int32} {d k k' : Nat} (h : pd_holF a d k = true) (hk : k ≤ k') : pd_holF a d k' = true := by
  induction k' with
  | zero => have : k = 0 := by omega
            subst this; exact h
  | succ n ih =>
    by_cases e : k = n + 1
    · subst e; exact h
    · rw [pd_holF, ih (by omega)]; rfl
theorem pd_ev0 {lo hi : Nat} {w : Nat → Int32} {b : Bool} {L : List Int32} (h : pe_wf lo hi b L []) (s : Nat → Int32) : pe_ev w L 0 s = pe_ev w L 0 (fun _ => 0) := pe_evC L [] (fun _ => 0) s h (fun j hj => absurd hj (Nat.not_lt_zero _))
/-- the reference -/
theorem pd_refHol {d : Nat} (hd : d < 20000) {m : zz_Mem} {H : Nat} (hH : m.1 1 3 = nI H) (hH2 : H ≤ 12) : ∀ (r k fuel : Nat), k + r = H → r < fuel → f_X12_isOpen_4 fuel (nI d) (pd_b (pd_holF (m.1 1) d k)) (nI k) m = f_X12_isOpen_41 (nI d) (pd_b (pd_holF (m.1 1) d H)) m := by
  intro r
  induction r with
  | zero =>
    intro k fuel h1 h2
    obtain ⟨n, rfl⟩ : ∃ n, fuel = n + 1 := ⟨fuel - 1, by omega⟩
    have e : k = H := by omega
    subst e
    rw [f_X12_isOpen_4, hH, if_pos (nI_le (Nat.le_refl _) (by omega))]
  | succ r ih =>
    intro k fuel h1 h2
    obtain ⟨n, rfl⟩ : ∃ n, fuel = n + 1 := ⟨fuel - 1, by omega⟩
    have l12 : (12 : Int32) = nI 12 := rfl
    rw [f_X12_isOpen_4, hH, if_neg (nI_ge (by omega) (by omega)), l12, nI_add, pq_ixE (by omega) (by decide), nI_clamp (by omega)]
    have e2 : ∀ b : Bool, decide (m.1 1 (12 + k) = nI d) = b → f_X12_isOpen_33 (f_X12_isOpen_4 n) (nI d) (nI k) (pd_b b) (pd_b (pd_holF (m.1 1) d k)) m = f_X12_isOpen_41 (nI d) (pd_b (pd_holF (m.1 1) d H)) m := by
      intro b hb
      unfold f_X12_isOpen_33
      rw [pq_letI, pq_letI, pd_bor, nI_1, ← hb]
      exact ih (k + 1) n (by omega) (by omega)
    by_cases e : m.1 1 (12 + k) = nI d
    · rw [if_pos e]
      exact e2 true (decide_eq_true e)
    · rw [if_neg e]
      exact e2 false (decide_eq_false e)
theorem pd_refOpen {d : Nat} (hd : d < 20000) {m : zz_Mem} (hv : pv_D (m.1 1)) : ∃ m', f_X12_isOpen (nI d) m = some (pd_b (pd_open (m.1 1) d), m') ∧ pq_fr [5, 6] m m' := by
  obtain ⟨-, v1, -, v3, -, -, -, vl, -, -⟩ := hv
  unfold f_X12_isOpen
  have h0 := pd_refHol hd v3.1 v3.2 (pv_n (m.1 1) 3) 0 zz_fuel (by omega) (by have : zz_fuel = 5000 := rfl; have := v3.2; omega)
  have h00 : pd_b (pd_holF (m.1 1) d 0) = 0 := rfl
  rw [h00, nI_0] at h0
  rw [h0]
  unfold f_X12_isOpen_41
  have l7 : (7 : Int32) = nI 7 := rfl
  have w7 : pd_wk (m.1 1) d < 7 := Nat.mod_lt _ (by decide)
  have := v1.2
  rw [l7, v1.1, nI_add, pk_rem (by omega) (by decide) (by decide), pq_letI]
  show ∃ m', (if m.1 1 7 = 0 then (if 5 ≤ nI (pd_wk (m.1 1) d) then _ else _) else _) = _ ∧ _
  by_cases h7 : m.1 1 7 = 0
  · rw [if_pos h7]
    have l5 : (5 : Int32) = nI 5 := rfl
    refine ⟨m, ?_, pq_fr0 m⟩
    rw [l5]
    unfold pd_open
    rw [if_pos h7]
    by_cases h5 : 5 ≤ pd_wk (m.1 1) d
    · rw [if_pos (nI_le h5 (by omega)), decide_eq_false (by omega)]
      rfl
    · rw [if_neg (nI_ge (by omega) (by omega)), decide_eq_true (by omega)]
      cases hh : pd_holF (m.1 1) d (pv_n (m.1 1) 3) <;> simp [pd_hol, hh, pd_b]
  · rw [if_neg h7, pq_letM]
    have h71 : m.1 1 7 = 1 := vl.1.resolve_left h7
    obtain ⟨c1, c2, c3, c4, c5⟩ := vl.2 h71
    have key : ∀ hb : Bool, pd_holF (m.1 1) d (pv_n (m.1 1) 3) = hb → ∃ m', f_X12_isOpen_100 (nI d) (pd_b hb) 6 (zz_setI m 6 5 (nI (pd_wk (m.1 1) d))) = some (pd_b (pd_open (m.1 1) d), m') ∧ pq_fr [5, 6] m m' := by
      intro hb hh
      unfold f_X12_isOpen_100
      have l6 : (6 : Int32) = nI 6 := rfl
      have l1 : (1 : Int32) = nI 1 := rfl
      rw [l6, pq_ixE (by decide) (by decide), nI_clamp (by decide), pq_letM, pq_letM]
      generalize hm2 : zz_setI (zz_setI (zz_setI m 6 5 (nI (pd_wk (m.1 1) d))) 6 6 (pd_b hb)) 6 7 (nI d) = m2
      have f2 : pq_fr [5, 6] m m2 := by
        rw [← hm2]
        exact pq_frI (pq_frI (pq_frI (pq_fr0 m) _ _ (by simp)) _ _ (by simp)) _ _ (by simp)
      have r1 : m2.1 1 = m.1 1 := (f2 1 (by simp)).1
      unfold f_X12_reckons
      obtain ⟨m', e1, e2⟩ := pe_ref (lo := 5) (hi := 8) (w := pd_w (m.1 1) d) (b := true) (law := 1) (fr := pv_n (m.1 1) (8 + 1)) (N := pv_n (m.1 1) (10 + 1)) (by decide) (by decide) c4 (pd_codes (m.1 1) 1) 0 [] zz_fuel m2 (by rw [pd_codesL]; have := c2.2; have : zz_fuel = 5000 := rfl; omega) (by rw [pd_codesL]; omega) (by rw [r1]; exact c1.1) (by rw [r1]; exact c2.1) (fun j hj => by rw [r1, pd_codesG]; rfl) (fun j a1 a2 => by
        rw [← hm2]
        have : j = 5 ∨ j = 6 ∨ j = 7 := by omega
        rcases this with rfl | rfl | rfl
        · simp [pz_Is, upd, pd_w]
        · simp [pz_Is, upd, pd_w, pd_hol, hh]
        · simp [pz_Is, upd, pd_w]) (by simp) c5
      have e0 : nI ([] : List Bool).length = 0 := rfl
      rw [e0, nI_0] at e1
      rw [show (1 : Int32) = nI 1 from rfl, e1, pq_bnd2]
      refine ⟨m', ?_, pq_frT f2 (pq_frW e2 (by simp))⟩
      show (if pe_ev (pd_w (m.1 1) d) (pd_codes (m.1 1) 1) 0 (m2.1 5) = nI 1 then _ else _) = _
      unfold pd_open
      rw [if_neg h7, pd_ev0 c5 (m2.1 5)]
      by_cases hq : pe_ev (pd_w (m.1 1) d) (pd_codes (m.1 1) 1) 0 (fun _ => 0) = 1
      · rw [if_pos (show _ = nI 1 from hq), decide_eq_true hq]; rfl
      · rw [if_neg (show ¬ _ = nI 1 from hq), decide_eq_false hq]; rfl
    cases hh : pd_holF (m.1 1) d (pv_n (m.1 1) 3) with
    | false => rw [if_pos (show pd_b false = 0 from rfl)]; exact key false hh
    | true => rw [if_neg (by decide)]; exact key true hh
/-- a DAY put off -/
def pd_offF (a : Nat → Int32) (d : Nat) : Nat → Nat
  | 0 => d
  | r + 1 => if pd_open a (d + (30 - r)) then d + (30 - r) else pd_offF a d r
def pd_off (a : Nat → Int32) (d : Nat) : Nat := pd_offF a d 31
theorem pd_refOff {d : Nat} (hd : d < 10000) : ∀ (r k fuel : Nat) (m : zz_Mem), pv_D (m.1 1) → k + r = 31 → r < fuel → ∃ m', f_X12_offOf_2 fuel (nI d) (nI k) m = some (nI (pd_offF (m.1 1) d r), m') ∧ pq_fr [5, 6] m m' := by
  intro r
  induction r with
  | zero =>
    intro k fuel m hv h1 h2
    obtain ⟨n, rfl⟩ : ∃ n, fuel = n + 1 := ⟨fuel - 1, by omega⟩
    have l30 : (30 : Int32) = nI 30 := rfl
    rw [f_X12_offOf_2, l30, if_pos (nI_lt (by omega) (by omega))]
    exact ⟨m, rfl, pq_fr0 m⟩
  | succ r ih =>
    intro k fuel m hv h1 h2
    obtain ⟨n, rfl⟩ : ∃ n, fuel = n + 1 := ⟨fuel - 1, by omega⟩
    have l30 : (30 : Int32) = nI 30 := rfl
    obtain ⟨m1, e1, f1⟩ := pd_refOpen (d := d + k) (by omega) hv
    have r1 : m1.1 1 = m.1 1 := (f1 1 (by simp)).1
    rw [f_X12_offOf_2, l30, if_neg (nI_nlt (by omega) (by omega)), nI_add, e1, pq_bnd2, pd_offF, show 30 - r = k by omega]
    cases ho : pd_open (m.1 1) (d + k) with
    | true =>
      rw [if_neg (by decide), if_pos rfl]
      exact ⟨m1, rfl, f1⟩
    | false =>
      rw [if_pos (show pd_b false = 0 from rfl), if_neg (by decide), pq_letI, nI_1]
      obtain ⟨m2, e2, f2⟩ := ih (k + 1) n m1 (by rw [r1]; exact hv) (by omega) (by omega)
      rw [r1] at e2
      exact ⟨m2, e2, pq_frT f1 f2⟩
theorem pd_refOffOf {d : Nat} (hd : d < 10000) {m : zz_Mem} (hv : pv_D (m.1 1)) : ∃ m', f_X12_offOf (nI d) m = some (nI (pd_off (m.1 1) d), m') ∧ pq_fr [5, 6] m m' := by
  have h := pd_refOff hd 31 0 zz_fuel m hv (by omega) (by decide)
  rw [nI_0] at h
  exact h
