/-! ===== 55: schedules: starts and ends put off, periods, order by ends ===== -/
/-- rows that agree but for the stand tell the same desk -/
def pv_ag (b a : Nat → Int32) : Prop := ∀ j, (j < 66 ∨ (277 ≤ j ∧ j < 1177)) → b j = a j
theorem pv_agn {b a : Nat → Int32} (h : pv_ag b a) {k : Nat} (hk : k < 66 ∨ (277 ≤ k ∧ k < 1177)) : pv_n b k = pv_n a k := by unfold pv_n; rw [h k hk]
theorem pv_agnn {b a : Nat → Int32} (h : pv_ag b a) {k B : Nat} (hk : k < 66 ∨ (277 ≤ k ∧ k < 1177)) (q : pv_nn a k B) : pv_nn b k B := by unfold pv_nn; rw [pv_agn h hk, h k hk]; exact q
theorem pv_agC {b a : Nat → Int32} (h : pv_ag b a) {law : Nat} (hl : law < 2) (hb : pv_n a (8 + law) + pv_n a (10 + law) ≤ 900) : pd_codes b law = pd_codes a law := by
  unfold pd_codes
  rw [pv_agn h (by omega), pv_agn h (by omega)]
  apply List.map_congr_left
  intro j hj
  rw [List.mem_range] at hj
  exact h _ (by omega)
theorem pv_agLaw {b a : Nat → Int32} (h : pv_ag b a) {law lo hi : Nat} {t : Bool} (hl : law < 2) (q : pv_law a law lo hi t) : pv_law b law lo hi t := by
  unfold pv_law
  rw [h (6 + law) (by omega)]
  refine ⟨q.1, fun h1 => ?_⟩
  obtain ⟨q1, q2, q3, q4, q5⟩ := q.2 h1
  refine ⟨pv_agnn h (by omega) q1, pv_agnn h (by omega) q2, ?_, ?_, ?_⟩
  · rw [pv_agn h (by omega)]; exact q3
  · rw [pv_agn h (by omega), pv_agn h (by omega)]; exact q4
  · rw [pv_agC h hl q4]; exact q5
theorem pv_agD {b a : Nat → Int32} (h : pv_ag b a) (q : pv_D a) : pv_D b := by
  obtain ⟨q0, q1, q2, q3, q4, q5, q6, q7, q8, q9⟩ := q
  have b4 := q4.2
  have b5 := q5.2
  refine ⟨pv_agnn h (by omega) q0, pv_agnn h (by omega) q1, pv_agnn h (by omega) q2, pv_agnn h (by omega) q3, pv_agnn h (by omega) q4, pv_agnn h (by omega) q5, pv_agLaw h (by omega) q6, pv_agLaw h (by omega) q7, fun i hi => ?_, fun k hk => ?_⟩
  · rw [pv_agn h (by omega)] at hi
    obtain ⟨i1, i2, i3, i4, i5, i6, i7, i8⟩ := q8 i hi
    unfold pv_in
    rw [pv_agn h (show 24 + i < 66 ∨ (277 ≤ 24 + i ∧ 24 + i < 1177) by omega), pv_agn h (show 32 + i < 66 ∨ (277 ≤ 32 + i ∧ 32 + i < 1177) by omega), pv_agn h (show 40 + i < 66 ∨ (277 ≤ 40 + i ∧ 40 + i < 1177) by omega), pv_agn h (show 48 + i < 66 ∨ (277 ≤ 48 + i ∧ 48 + i < 1177) by omega)]
    exact ⟨pv_agnn h (by omega) i1, pv_agnn h (by omega) i2, pv_agnn h (by omega) i3, pv_agnn h (by omega) i4, i5, i6, i7, i8⟩
  · rw [pv_agn h (by omega)] at hk
    exact pv_agnn h (by omega) (q9 k hk)
theorem pv_agHol {b a : Nat → Int32} (h : pv_ag b a) (d : Nat) : ∀ k, k ≤ 12 → pd_holF b d k = pd_holF a d k := by
  intro k
  induction k with
  | zero => intro _; rfl
  | succ k ih => intro hk; rw [pd_holF, pd_holF, ih (by omega), h (12 + k) (by omega)]
theorem pv_agOpen {b a : Nat → Int32} (h : pv_ag b a) (q : pv_D a) (d : Nat) : pd_open b d = pd_open a d := by
  obtain ⟨q0, q1, q2, q3, q4, q5, q6, q7, q8, q9⟩ := q
  have eh : pd_hol b d = pd_hol a d := by unfold pd_hol; rw [pv_agn h (by omega)]; exact pv_agHol h d _ q3.2
  have ew : pd_wk b d = pd_wk a d := by unfold pd_wk; rw [pv_agn h (by omega)]
  unfold pd_open
  rw [h 7 (by omega), eh, ew]
  split
  · rfl
  · rename_i h7
    obtain ⟨c1, c2, c3, c4, c5⟩ := q7.2 (q7.1.resolve_left h7)
    have e : pd_w b d = pd_w a d := by unfold pd_w; rw [eh, ew]
    rw [e, pv_agC h (by omega) c4]
theorem pv_agOffF {b a : Nat → Int32} (h : pv_ag b a) (q : pv_D a) (d : Nat) : ∀ r, pd_offF b d r = pd_offF a d r := by
  intro r
  induction r with
  | zero => rfl
  | succ r ih => rw [pd_offF, pd_offF, ih, pv_agOpen h q]
theorem pv_agOff {b a : Nat → Int32} (h : pv_ag b a) (q : pv_D a) (d : Nat) : pd_off b d = pd_off a d := pv_agOffF h q d 31
/-- the reference's day put off, over a picture -/
theorem pr_off {a : Nat → Int32} {m : zz_Mem} (hm : pv_ag (m.1 1) a) (hv : pv_D a) {d : Nat} (hd : d < 10000) : ∃ m', f_X12_offOf (nI d) m = some (nI (pd_off a d), m') ∧ pq_fr [5, 6] m m' := by
  obtain ⟨m', e, f⟩ := pd_refOffOf hd (pv_agD hm hv)
  rw [pv_agOff hm hv] at e
  exact ⟨m', e, f⟩
theorem pr_open {a : Nat → Int32} {m : zz_Mem} (hm : pv_ag (m.1 1) a) (hv : pv_D a) {d : Nat} (hd : d < 20000) : ∃ m', f_X12_isOpen (nI d) m = some (pd_b (pd_open a d), m') ∧ pq_fr [5, 6] m m' := by
  obtain ⟨m', e, f⟩ := pd_refOpen hd (pv_agD hm hv)
  rw [pv_agOpen hm hv] at e
  exact ⟨m', e, f⟩
def pK (a : Nat → Int32) (i : Nat) : Nat := pv_n a (24 + i)
def pS (a : Nat → Int32) (i : Nat) : Nat := if pK a i = 1 then pd_off a (pv_n a (32 + i)) else 0
def pE (a : Nat → Int32) (i : Nat) : Nat := pd_off a (pv_n a (40 + i))
def pQ (a : Nat → Int32) (i : Nat) : Nat := (pv_n a (40 + i) - 1) / pv_n a (48 + i)
def pM (a : Nat → Int32) (i : Nat) : Nat := if pK a i = 2 then pQ a i + 1 else 0
/-- the first end as told -/
def pFst (a : Nat → Int32) (i : Nat) : Nat := pv_n a (40 + i) - pQ a i * pv_n a (48 + i)
def pP (a : Nat → Int32) (i k : Nat) : Nat := pd_off a (pFst a i + k * pv_n a (48 + i))
theorem pQ_b {a : Nat → Int32} {i : Nat} (h : pv_in a i) (hk : pK a i = 2) : 30 ≤ pv_n a (48 + i) ∧ pQ a i * pv_n a (48 + i) ≤ pv_n a (40 + i) - 1 ∧ pv_n a (40 + i) - 1 < pQ a i * pv_n a (48 + i) + pv_n a (48 + i) ∧ pQ a i ≤ 33 ∧ 1 ≤ pv_n a (40 + i) ∧ pv_n a (40 + i) ≤ 999 ∧ pv_n a (48 + i) ≤ 999 := by
  obtain ⟨-, -, h3, h4, h5, h6, -, -⟩ := h
  have h30 := h6 hk
  have h1 := Nat.div_add_mod (pv_n a (40 + i) - 1) (pv_n a (48 + i))
  have h2 := Nat.mod_lt (pv_n a (40 + i) - 1) (show 0 < pv_n a (48 + i) by omega)
  rw [Nat.mul_comm] at h1
  have hq : pQ a i * 30 ≤ pQ a i * pv_n a (48 + i) := Nat.mul_le_mul_left _ h30
  unfold pQ at *
  have := h3.2
  have := h4.2
  refine ⟨h30, by omega, by omega, by omega, by omega, by omega, by omega⟩
theorem pP_in {a : Nat → Int32} {i : Nat} (h : pv_in a i) (hk : pK a i = 2) {k : Nat} (hq : k ≤ pQ a i) : pFst a i + k * pv_n a (48 + i) ≤ pv_n a (40 + i) ∧ 1 ≤ pFst a i ∧ pFst a i ≤ pv_n a (48 + i) ∧ pFst a i + pQ a i * pv_n a (48 + i) = pv_n a (40 + i) := by
  obtain ⟨b1, b2, b3, b4, b5, b6⟩ := pQ_b h hk
  have := Nat.mul_le_mul_right (pv_n a (48 + i)) hq
  unfold pFst
  omega
theorem pd_offR (a : Nat → Int32) (d : Nat) : d ≤ pd_off a d ∧ pd_off a d ≤ d + 30 := pd_offB a d 31 (Nat.le_refl _)
theorem pE_b {a : Nat → Int32} {i : Nat} (h : pv_in a i) : 1 ≤ pE a i ∧ pE a i ≤ 1029 := by
  obtain ⟨-, h2, h3, -, h5, -, -, -⟩ := h
  have := pd_offR a (pv_n a (40 + i))
  have := h3.2
  unfold pE
  omega
theorem pS_b {a : Nat → Int32} {i : Nat} (h : pv_in a i) : pS a i ≤ 1028 := by
  obtain ⟨-, h2, -, -, -, -, -, -⟩ := h
  have := pd_offR a (pv_n a (32 + i))
  have := h2.2
  unfold pS
  split <;> omega
theorem pP_b {a : Nat → Int32} {i : Nat} (h : pv_in a i) (hk : pK a i = 2) {k : Nat} (hq : k ≤ pQ a i) : 1 ≤ pP a i k ∧ pP a i k ≤ pE a i ∧ pP a i k ≤ 1029 := by
  have h1 := pP_in h hk hq
  have h2 := pd_offR a (pFst a i + k * pv_n a (48 + i))
  have h3 := pd_offM a (d := pFst a i + k * pv_n a (48 + i)) (d' := pv_n a (40 + i)) h1.1
  have h4 := pE_b h
  unfold pP
  unfold pE at *
  omega
theorem pP_m (a : Nat → Int32) (i k : Nat) : pP a i k ≤ pP a i (k + 1) := by
  unfold pP
  apply pd_offM
  rw [Nat.succ_mul]
  omega
theorem pP_last {a : Nat → Int32} {i : Nat} (h : pv_in a i) (hk : pK a i = 2) : pP a i (pQ a i) = pE a i := by
  unfold pP pE
  rw [(pP_in h hk (Nat.le_refl _)).2.2.2]
theorem pM_b {a : Nat → Int32} {i : Nat} (h : pv_in a i) : pM a i ≤ 34 := by
  unfold pM
  split
  · have := (pQ_b h (by assumption)).2.2.2.1; omega
  · omega
/-- put in by its end -/
def po_ins (e : Nat → Nat) (i : Nat) : Nat → (Nat → Nat) → (Nat → Nat)
  | 0, o => va_up o 0 i
  | k + 1, o => if e (o k) ≤ e i then va_up o (k + 1) i else po_ins e i k (va_up o (k + 1) (o k))
def po_ord (e : Nat → Nat) : Nat → (Nat → Nat)
  | 0 => fun _ => 0
  | i + 1 => po_ins e i i (po_ord e i)
/-- in order, but for a hole at k -/
def po_H (e : Nat → Nat) (i k : Nat) (o : Nat → Nat) : Prop := (∀ j, j ≤ i → j ≠ k → o j < i) ∧ (∀ j l, j < l → l ≤ i → j ≠ k → l ≠ k → e (o j) ≤ e (o l) ∧ o j ≠ o l) ∧ (∀ j, k < j → j ≤ i → e i ≤ e (o j)) ∧ ∀ x, x < i → ∃ j, j ≤ i ∧ j ≠ k ∧ o j = x
def po_I (e : Nat → Nat) (i : Nat) (o : Nat → Nat) : Prop := (∀ j, j < i → o j < i) ∧ (∀ j l, j < l → l < i → e (o j) ≤ e (o l) ∧ o j ≠ o l) ∧ ∀ x, x < i → ∃ j, j < i ∧ o j = x
theorem po_fill {e : Nat → Nat} {i k : Nat} {o : Nat → Nat} (hk : k ≤ i) (h : po_H e i k o) (hl : ∀ j, j < k → e (o j) ≤ e i) : po_I e (i + 1) (va_up o k i) := by
  obtain ⟨h1, h2, h3, h4⟩ := h
  refine ⟨fun j hj => ?_, fun j l hjl hl2 => ?_, fun x hx => ?_⟩
  · by_cases c : j = k
    · rw [va_up, if_pos c]; omega
    · rw [va_up, if_neg c]; have := h1 j (by omega) c; omega
  · by_cases c : j = k
    · have c2 : ¬ l = k := by omega
      rw [va_up, va_up, if_pos c, if_neg c2]
      have := h1 l (by omega) c2
      exact ⟨h3 l (by omega) (by omega), by omega⟩
    · by_cases c2 : l = k
      · rw [va_up, va_up, if_neg c, if_pos c2]
        have := h1 j (by omega) c
        exact ⟨hl j (by omega), by omega⟩
      · rw [va_up, va_up, if_neg c, if_neg c2]
        exact h2 j l hjl (by omega) c c2
  · by_cases c : x = i
    · exact ⟨k, by omega, by rw [va_up, if_pos rfl, c]⟩
    · obtain ⟨j, j1, j2, j3⟩ := h4 x (by omega)
      exact ⟨j, by omega, by rw [va_up, if_neg j2, j3]⟩
theorem po_insI {e : Nat → Nat} {i : Nat} : ∀ (k : Nat) (o : Nat → Nat), k ≤ i → po_H e i k o → po_I e (i + 1) (po_ins e i k o) := by
  intro k
  induction k with
  | zero =>
    intro o hk h
    exact po_fill hk h (fun j hj => absurd hj (Nat.not_lt_zero _))
  | succ k ih =>
    intro o hk h
    rw [po_ins]
    split
    · rename_i hc
      refine po_fill hk h (fun j hj => ?_)
      by_cases c : j = k
      · rw [c]; exact hc
      · have := (h.2.1 j k (by omega) (by omega) (by omega) (by omega)).1
        omega
    · rename_i hc
      refine ih _ (by omega) ?_
      obtain ⟨h1, h2, h3, h4⟩ := h
      refine ⟨fun j hj hn => ?_, fun j l hjl hl n1 n2 => ?_, fun j hj hi => ?_, fun x hx => ?_⟩
      · by_cases c : j = k + 1
        · rw [va_up, if_pos c]; exact h1 k (by omega) (by omega)
        · rw [va_up, if_neg c]; exact h1 j hj c
      · by_cases c : j = k + 1
        · have c2 : ¬ l = k + 1 := by omega
          rw [va_up, va_up, if_pos c, if_neg c2]
          exact h2 k l (by omega) hl (by omega) c2
        · by_cases c2 : l = k + 1
          · rw [va_up, va_up, if_neg c, if_pos c2]
            exact h2 j k (by omega) (by omega) c (by omega)
          · rw [va_up, va_up, if_neg c, if_neg c2]
            exact h2 j l hjl hl c c2
      · by_cases c : j = k + 1
        · rw [va_up, if_pos c]; omega
        · rw [va_up, if_neg c]; exact h3 j (by omega) hi
      · obtain ⟨j, j1, j2, j3⟩ := h4 x hx
        by_cases c : j = k
        · exact ⟨k + 1, by omega, by omega, by rw [va_up, if_pos rfl, ← j3, c]⟩
        · exact ⟨j, j1, c, by rw [va_up, if_neg j2, j3]⟩
theorem po_ordI (e : Nat → Nat) : ∀ i, po_I e i (po_ord e i) := by
  intro i
  induction i with
  | zero => exact ⟨fun j hj => absurd hj (Nat.not_lt_zero _), fun j l _ hl => absurd hl (Nat.not_lt_zero _), fun x hx => absurd hx (Nat.not_lt_zero _)⟩
  | succ i ih =>
    obtain ⟨h1, h2, h3⟩ := ih
    refine po_insI i _ (Nat.le_refl _) ⟨fun j hj hn => h1 j (by omega), fun j l hjl hl n1 n2 => h2 j l hjl (by omega), fun j hj hi => by omega, fun x hx => ?_⟩
    obtain ⟨j, j1, j2⟩ := h3 x hx
    exact ⟨j, by omega, by omega, j2⟩
theorem po_r {e : Nat → Nat} {i : Nat} (hi : i < 8) (k2 : Int32 → zz_Mem → Option zz_Mem) : ∀ (k fuel : Nat) (o : Nat → Nat) (m : zz_Mem), k ≤ i → k < fuel → (∀ j, j ≤ i → j ≠ k → m.1 9 j = nI (o j)) → (∀ j, j < k → o j < i) → (∀ j, j ≤ i → m.1 8 j = nI (e j) ∧ e j < 20000) →
    ∃ m', f_X12_laysDays_74 k2 fuel (nI i) (nI k) m = k2 (nI (i + 1)) m' ∧ pq_fr [9] m m' ∧ ∀ j, j ≤ i → m'.1 9 j = nI (po_ins e i k o j) := by
  have fin : ∀ (k : Nat) (o : Nat → Nat) (m : zz_Mem), k ≤ i → (∀ j, j ≤ i → j ≠ k → m.1 9 j = nI (o j)) → ∃ m', f_X12_laysDays_120 k2 (nI i) (nI k) m = k2 (nI (i + 1)) m' ∧ pq_fr [9] m m' ∧ ∀ j, j ≤ i → m'.1 9 j = nI (va_up o k i j) := by
    intro k o m hk h1
    unfold f_X12_laysDays_120
    rw [pq_ixE (by omega) (by decide), nI_clamp (by omega), pq_letM, pq_letI, nI_1]
    refine ⟨_, rfl, pq_frI (pq_fr0 m) _ _ (by simp), fun j hj => ?_⟩
    by_cases c : j = k
    · rw [c, qx_isE, va_up, if_pos rfl]
    · rw [qx_isN c, va_up, if_neg c]; exact h1 j hj c
  intro k
  induction k with
  | zero =>
    intro fuel o m hk hf h1 h2 h3
    obtain ⟨n, rfl⟩ : ∃ n, fuel = n + 1 := ⟨fuel - 1, by omega⟩
    rw [f_X12_laysDays_74, if_pos (show nI 0 ≤ 0 by decide)]
    exact fin 0 o m hk h1
  | succ k ih =>
    intro fuel o m hk hf h1 h2 h3
    obtain ⟨n, rfl⟩ : ∃ n, fuel = n + 1 := ⟨fuel - 1, by omega⟩
    have hok := h2 k (by omega)
    have g1 := h1 k (by omega) (by omega)
    have g2 := h3 (o k) (by omega)
    have g3 := h3 i (Nat.le_refl _)
    rw [f_X12_laysDays_74, if_neg (nI_nle (by omega) (by omega)), nI_pred, pq_ixE (by omega) (by decide), nI_clamp (by omega), g1, pq_ixE (by omega) (by decide), pq_ixE (by omega) (by decide), nI_clamp (by omega), nI_clamp (by omega), g2.1, g3.1, po_ins]
    by_cases hc : e (o k) ≤ e i
    · rw [if_pos (nI_le hc (by omega)), if_pos hc]
      exact fin (k + 1) o m hk h1
    · rw [if_neg (nI_ge (by omega) (by omega)), if_neg hc, pq_ixE (by omega) (by decide), pq_ixE (by omega) (by decide), nI_clamp (by omega), pq_letM, pq_letI, pk_m1]
      obtain ⟨m', e1, e2, e3⟩ := ih n (va_up o (k + 1) (o k)) (zz_setI m 9 (k + 1) (nI (o k))) (by omega) (by omega) (fun j hj hn => by
        by_cases c : j = k + 1
        · rw [c, qx_isE, va_up, if_pos rfl]
        · rw [qx_isN c, va_up, if_neg c]; exact h1 j hj c) (fun j hj => by rw [va_up, if_neg (by omega)]; exact h2 j (by omega)) (fun j hj => by rw [pz_In _ _ _ (by decide)]; exact h3 j hj)
      exact ⟨m', e1, pq_frT (pq_frI (pq_fr0 m) _ _ (by simp)) e2, e3⟩
theorem po_c {e : Nat → Nat} {i : Nat} (hi : i < 8) (k2 : Int32 → zz_Mem → Option zz_Mem) : ∀ (k fuel : Nat) (o : Nat → Nat) (m : zz_Mem), k ≤ i → k < fuel → (∀ j, j ≤ i → j ≠ k → m.1 78 j = nI (o j)) → (∀ j, j < k → o j < i) → (∀ j, j ≤ i → m.1 74 j = nI (e j) ∧ e j < 20000) →
    ∃ m', f_X8_sortByEnds_15 k2 fuel (nI i) (nI k) m = k2 (nI (i + 1)) m' ∧ pq_fr [78] m m' ∧ ∀ j, j ≤ i → m'.1 78 j = nI (po_ins e i k o j) := by
  have fin : ∀ (k : Nat) (o : Nat → Nat) (m : zz_Mem), k ≤ i → (∀ j, j ≤ i → j ≠ k → m.1 78 j = nI (o j)) → ∃ m', f_X8_sortByEnds_61 k2 (nI i) (nI k) m = k2 (nI (i + 1)) m' ∧ pq_fr [78] m m' ∧ ∀ j, j ≤ i → m'.1 78 j = nI (va_up o k i j) := by
    intro k o m hk h1
    unfold f_X8_sortByEnds_61
    rw [pq_ixE (by omega) (by decide), nI_clamp (by omega), pq_letM, pq_letI, nI_1]
    refine ⟨_, rfl, pq_frI (pq_fr0 m) _ _ (by simp), fun j hj => ?_⟩
    by_cases c : j = k
    · rw [c, qx_isE, va_up, if_pos rfl]
    · rw [qx_isN c, va_up, if_neg c]; exact h1 j hj c
  intro k
  induction k with
  | zero =>
    intro fuel o m hk hf h1 h2 h3
    obtain ⟨n, rfl⟩ : ∃ n, fuel = n + 1 := ⟨fuel - 1, by omega⟩
    rw [f_X8_sortByEnds_15, if_pos (show nI 0 ≤ 0 by decide)]
    exact fin 0 o m hk h1
  | succ k ih =>
    intro fuel o m hk hf h1 h2 h3
    obtain ⟨n, rfl⟩ : ∃ n, fuel = n + 1 := ⟨fuel - 1, by omega⟩
    have hok := h2 k (by omega)
    have g1 := h1 k (by omega) (by omega)
    have g2 := h3 (o k) (by omega)
    have g3 := h3 i (Nat.le_refl _)
    rw [f_X8_sortByEnds_15, if_neg (nI_nle (by omega) (by omega)), nI_pred, pq_ixE (by omega) (by decide), nI_clamp (by omega), g1, pq_ixE (by omega) (by decide), pq_ixE (by omega) (by decide), nI_clamp (by omega), nI_clamp (by omega), g2.1, g3.1, po_ins]
    by_cases hc : e (o k) ≤ e i
    · rw [if_pos (nI_le hc (by omega)), if_pos hc]
      exact fin (k + 1) o m hk h1
    · rw [if_neg (nI_ge (by omega) (by omega)), if_neg hc, pq_ixE (by omega) (by decide), pq_ixE (by omega) (by decide), nI_clamp (by omega), pq_letM, pq_letI, pk_m1]
      obtain ⟨m', e1, e2, e3⟩ := ih n (va_up o (k + 1) (o k)) (zz_setI m 78 (k + 1) (nI (o k))) (by omega) (by omega) (fun j hj hn => by
        by_cases c : j = k + 1
        · rw [c, qx_isE, va_up, if_pos rfl]
        · rw [qx_isN c, va_up, if_neg c]; exact h1 j hj c) (fun j hj => by rw [va_up, if_neg (by omega)]; exact h2 j (by omega)) (fun j hj => by rw [pz_In _ _ _ (by decide)]; exact h3 j hj)
      exact ⟨m', e1, pq_frT (pq_frI (pq_fr0 m) _ _ (by simp)) e2, e3⟩
/-- the reference's periods -/
theorem ps_r31 {a : Nat → Int32} {i : Nat} (hi : i < 8) (h : pv_in a i) (hk : pK a i = 2) {m : zz_Mem} (hm : pv_ag (m.1 1) a) : ∀ (r fuel : Nat), r ≤ pQ a i → r < fuel → f_X12_laysPeriods_31 fuel (nI i) (nI (pFst a i + r * pv_n a (48 + i))) m = f_X12_laysPeriods_61 zz_fuel (nI i) (nI (pFst a i)) m := by
  obtain ⟨b1, b2, b3, b4, b5, b6, b7⟩ := pQ_b h hk
  have h4 := h.2.2.2.1
  have l48 : (48 : Int32) = nI 48 := rfl
  have e48 : m.1 1 (48 + i) = nI (pv_n a (48 + i)) := by rw [hm _ (by omega)]; exact h4.1
  intro r
  induction r with
  | zero =>
    intro fuel hr hf
    obtain ⟨n, rfl⟩ : ∃ n, fuel = n + 1 := ⟨fuel - 1, by omega⟩
    have := pP_in h hk hr
    rw [f_X12_laysPeriods_31, l48, nI_add, pq_ixE (by omega) (by decide), nI_clamp (by omega), e48, Nat.zero_mul, Nat.add_zero, if_pos (nI_le (by omega) (by omega))]
  | succ r ih =>
    intro fuel hr hf
    obtain ⟨n, rfl⟩ : ∃ n, fuel = n + 1 := ⟨fuel - 1, by omega⟩
    have := pP_in h hk hr
    rw [Nat.succ_mul] at this ⊢
    rw [f_X12_laysPeriods_31, l48, nI_add, pq_ixE (by omega) (by decide), nI_clamp (by omega), e48, if_neg (nI_ge (by omega) (by omega)), pq_ixE (by omega) (by decide), pk_sub (by omega), pq_letI, show pFst a i + (r * pv_n a (48 + i) + pv_n a (48 + i)) - pv_n a (48 + i) = pFst a i + r * pv_n a (48 + i) by omega]
    exact ih n (by omega) (by omega)
theorem ps_r61 {a : Nat → Int32} (hv : pv_D a) {i : Nat} (hi : i < 8) (h : pv_in a i) (hk : pK a i = 2) : ∀ (r k fuel : Nat) (m : zz_Mem), k + r = pQ a i + 1 → r < fuel → pv_ag (m.1 1) a → m.1 10 i = nI k → (∀ j, j < k → m.1 11 (34 * i + j) = nI (pP a i j)) →
    ∃ m', f_X12_laysPeriods_61 fuel (nI i) (nI (pFst a i + k * pv_n a (48 + i))) m = some m' ∧ pq_fr [5, 6, 10, 11] m m' ∧ m'.1 10 i = nI (pQ a i + 1) ∧ (∀ j, j ≤ pQ a i → m'.1 11 (34 * i + j) = nI (pP a i j)) ∧ (∀ j, j ≠ i → m'.1 10 j = m.1 10 j) ∧ ∀ j, j < 34 * i → m'.1 11 j = m.1 11 j := by
  obtain ⟨b1, b2, b3, b4, b5, b6, b7⟩ := pQ_b h hk
  have h3 := h.2.2.1
  have h4 := h.2.2.2.1
  have l40 : (40 : Int32) = nI 40 := rfl
  have l48 : (48 : Int32) = nI 48 := rfl
  have l34 : (34 : Int32) = nI 34 := rfl
  intro r
  induction r with
  | zero =>
    intro k fuel m h1 h2 hm hk0 hj
    obtain ⟨n, rfl⟩ : ∃ n, fuel = n + 1 := ⟨fuel - 1, by omega⟩
    have e : k = pQ a i + 1 := by omega
    have e40 : m.1 1 (40 + i) = nI (pv_n a (40 + i)) := by rw [hm _ (by omega)]; exact h3.1
    have := pP_in h hk (Nat.le_refl (pQ a i))
    subst e
    rw [Nat.succ_mul, f_X12_laysPeriods_61, l40, nI_add, pq_ixE (by omega) (by decide), nI_clamp (by omega), e40, if_pos (nI_lt (by omega) (by omega))]
    exact ⟨m, rfl, pq_fr0 m, hk0, fun j hj' => hj j (by omega), fun _ _ => rfl, fun _ _ => rfl⟩
  | succ r ih =>
    intro k fuel m h1 h2 hm hk0 hj
    obtain ⟨n, rfl⟩ : ∃ n, fuel = n + 1 := ⟨fuel - 1, by omega⟩
    have e40 : m.1 1 (40 + i) = nI (pv_n a (40 + i)) := by rw [hm _ (by omega)]; exact h3.1
    have := pP_in h hk (show k ≤ pQ a i by omega)
    obtain ⟨m1, e1, f1⟩ := pr_off (d := pFst a i + k * pv_n a (48 + i)) hm hv (by omega)
    have ea : pd_off a (pFst a i + k * pv_n a (48 + i)) = pP a i k := rfl
    have r1 : m1.1 1 = m.1 1 := (f1 1 (by simp)).1
    have r10 : m1.1 10 = m.1 10 := (f1 10 (by simp)).1
    have r11 : m1.1 11 = m.1 11 := (f1 11 (by simp)).1
    have e48 : m.1 1 (48 + i) = nI (pv_n a (48 + i)) := by rw [hm _ (by omega)]; exact h4.1
    rw [ea] at e1
    rw [f_X12_laysPeriods_61, l40, nI_add, pq_ixE (by omega) (by decide), nI_clamp (by omega), e40, if_neg (nI_nlt (by omega) (by omega)), pq_ixE (by omega) (by decide), e1, pq_bnd2, l34, pk_mul, nI_clamp (by omega), hk0, nI_add, pq_ixE (by omega) (by decide), nI_clamp (by omega), pq_letM, pq_ixE (by omega) (by decide), pq_ixE (by omega) (by decide), pq_letM, l48, nI_add, pq_ixE (by omega) (by decide), nI_clamp (by omega)]
    rw [pz_In _ _ _ (show (10 : Nat) ≠ 11 by decide), r10, hk0, nI_1, pz_In _ _ _ (show (1 : Nat) ≠ 10 by decide), pz_In _ _ _ (show (1 : Nat) ≠ 11 by decide), r1, e48, nI_add, pq_letI, Nat.add_assoc, ← Nat.succ_mul]
    have fr : pq_fr [5, 6, 10, 11] m (zz_setI (zz_setI m1 11 (34 * i + k) (nI (pP a i k))) 10 i (nI (k + 1))) := pq_frI (pq_frI (pq_frW f1 (by simp)) _ _ (by simp)) _ _ (by simp)
    obtain ⟨m', g1, g2, g3, g4, g5, g6⟩ := ih (k + 1) n (zz_setI (zz_setI m1 11 (34 * i + k) (nI (pP a i k))) 10 i (nI (k + 1))) (by omega) (by omega) (fun j hj' => by rw [(fr 1 (by simp)).1]; exact hm j hj') qx_isE (fun j hj' => by
      rw [pz_In _ _ _ (by decide)]
      by_cases c : j = k
      · rw [c, qx_isE]
      · rw [qx_isN (by omega), r11]; exact hj j (by omega))
    refine ⟨m', g1, pq_frT fr g2, g3, g4, fun j hj' => ?_, fun j hj' => ?_⟩
    · rw [g5 j hj', qx_isN hj', pz_In _ _ _ (by decide), r10]
    · rw [g6 j hj', pz_In _ _ _ (by decide), qx_isN (by omega), r11]
