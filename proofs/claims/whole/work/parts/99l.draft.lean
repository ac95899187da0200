/-! ===== 99l: the draft, in both ===== -/
def pDi (μ : zz_Mem) (a : Nat → Int32) (i : Nat) : Prop := ∃ kd st en ev ra, kd ≤ 2 ∧ st ≤ 998 ∧ en ≤ 999 ∧ ev ≤ 999 ∧ ra ≤ 999 ∧ st < en ∧ (kd = 2 → 30 ≤ ev) ∧ (kd ≠ 2 → ev = 0) ∧ (kd ≠ 1 → st = 0) ∧ (a (24 + i) = nI kd ∧ a (32 + i) = nI st ∧ a (40 + i) = nI en ∧ a (48 + i) = nI ev ∧ a (66 + i) = nI ra) ∧ μ.1 18 i = nI kd ∧ μ.1 19 i = nI st ∧ μ.1 20 i = nI en ∧ μ.1 21 i = nI ev ∧ μ.1 28 i = nI ra
def pDw (μ : zz_Mem) (a : Nat → Int32) (k : Nat) : Prop := (∃ x, x ≤ 999 ∧ a (56 + k) = nI x ∧ μ.1 22 k = nI x) ∧ μ.1 29 k = a (75 + k) ∧ -999 ≤ (a (75 + k)).toInt ∧ (a (75 + k)).toInt ≤ 999
def pDlw (μ : zz_Mem) (a : Nat → Int32) (N law sh lo hi : Nat) (b : Bool) : Prop := (a (6 + law) = 0 ∧ μ.1 23 (5 + 2 * law) = μ.1 23 (4 + 2 * law)) ∨ (a (6 + law) = 1 ∧ ∃ (fr : Nat) (C : List Int32), 0 < C.length ∧ fr + C.length ≤ N ∧ a (8 + law) = nI fr ∧ a (10 + law) = nI C.length ∧ μ.1 23 (4 + 2 * law) = nI fr ∧ μ.1 23 (5 + 2 * law) = nI (fr + C.length) ∧ pe_wf lo hi b C [] ∧ ∀ i, i < C.length → a (277 + (fr + i)) = C.getD i 0 ∧ μ.1 24 (fr + i) = pe_cm sh (C.getD i 0))
def pDh (μ : zz_Mem) (a : Nat → Int32) (l : Nat) : Prop := μ.1 16 0 = a 1 ∧ μ.1 16 1 = a 2 ∧ μ.1 16 2 = nI l ∧ a 0 = nI l ∧ μ.1 27 2 = a 74 ∧ a 85 = 0 ∧ (∃ x, x ≤ 6 ∧ a 1 = nI x) ∧ ∃ x, x ≤ 1 ∧ a 2 = nI x
def pG1 (μ : zz_Mem) (a : Nat → Int32) (H : Nat) : Prop := μ.1 16 3 = nI H ∧ a 3 = nI H ∧ H ≤ 12 ∧ ∀ k, k < H → μ.1 17 k = a (12 + k)
def pG2 (μ : zz_Mem) (a : Nat → Int32) (I : Nat) : Prop := μ.1 16 5 = nI I ∧ a 4 = nI I ∧ I ≤ 8 ∧ ∀ i, i < I → pDi μ a i
def pG3 (μ : zz_Mem) (a : Nat → Int32) (F : Nat) : Prop := μ.1 16 10 = nI F ∧ a 5 = nI F ∧ F ≤ 10 ∧ ∀ k, k < F → pDw μ a k
def pG4 (μ : zz_Mem) (a : Nat → Int32) (N : Nat) : Prop := μ.1 23 3 = nI N ∧ a 276 = nI N ∧ pDlw μ a N 0 0 0 5 false ∧ pDlw μ a N 1 5 5 8 true
def pDx (μ : zz_Mem) (a : Nat → Int32) (H I F N l : Nat) : Prop := pG1 μ a H ∧ pG2 μ a I ∧ pG3 μ a F ∧ pG4 μ a N ∧ pDh μ a l
theorem pDi_C {μ μ' : zz_Mem} {a b : Nat → Int32} {i : Nat} (h : pDi μ a i) (c1 : μ'.1 18 i = μ.1 18 i) (c2 : μ'.1 19 i = μ.1 19 i) (c3 : μ'.1 20 i = μ.1 20 i) (c4 : μ'.1 21 i = μ.1 21 i) (c5 : μ'.1 28 i = μ.1 28 i) (a1 : b (24 + i) = a (24 + i)) (a2 : b (32 + i) = a (32 + i)) (a3 : b (40 + i) = a (40 + i)) (a4 : b (48 + i) = a (48 + i)) (a5 : b (66 + i) = a (66 + i)) : pDi μ' b i := by
  unfold pDi at h ⊢
  rw [c1, c2, c3, c4, c5, a1, a2, a3, a4, a5]
  exact h
theorem pDw_C {μ μ' : zz_Mem} {a b : Nat → Int32} {k : Nat} (h : pDw μ a k) (c1 : μ'.1 22 k = μ.1 22 k) (c2 : μ'.1 29 k = μ.1 29 k) (a1 : b (56 + k) = a (56 + k)) (a2 : b (75 + k) = a (75 + k)) : pDw μ' b k := by
  unfold pDw at h ⊢
  rw [c1, c2, a1, a2]
  exact h
theorem pDlw_C {μ μ' : zz_Mem} {a b : Nat → Int32} {N N' law sh lo hi : Nat} {t : Bool} (h : pDlw μ a N law sh lo hi t) (hN : N ≤ N') (c1 : μ'.1 23 (4 + 2 * law) = μ.1 23 (4 + 2 * law)) (c2 : μ'.1 23 (5 + 2 * law) = μ.1 23 (5 + 2 * law)) (a1 : b (6 + law) = a (6 + law)) (a2 : b (8 + law) = a (8 + law)) (a3 : b (10 + law) = a (10 + law)) (hc : ∀ j, j < N → b (277 + j) = a (277 + j) ∧ μ'.1 24 j = μ.1 24 j) : pDlw μ' b N' law sh lo hi t := by
  unfold pDlw at h ⊢
  rw [c1, c2, a1, a2, a3]
  rcases h with h | ⟨h1, fr, C, q1, q2, q3, q4, q5, q6, q7, q8⟩
  · exact Or.inl h
  · exact Or.inr ⟨h1, fr, C, q1, by omega, q3, q4, q5, q6, q7, fun i hi => by rw [(hc (fr + i) (by omega)).1, (hc (fr + i) (by omega)).2]; exact q8 i hi⟩
theorem pDh_C {μ μ' : zz_Mem} {a b : Nat → Int32} {l : Nat} (h : pDh μ a l) (c0 : μ'.1 16 0 = μ.1 16 0) (c1 : μ'.1 16 1 = μ.1 16 1) (c2 : μ'.1 16 2 = μ.1 16 2) (c3 : μ'.1 27 2 = μ.1 27 2) (a0 : b 0 = a 0) (a1 : b 1 = a 1) (a2 : b 2 = a 2) (a3 : b 74 = a 74) (a4 : b 85 = a 85) : pDh μ' b l := by
  unfold pDh at h ⊢
  rw [c0, c1, c2, c3, a0, a1, a2, a3, a4]
  exact h
theorem pG1_C {μ μ' : zz_Mem} {a b : Nat → Int32} {H : Nat} (h : pG1 μ a H) (c1 : μ'.1 16 3 = μ.1 16 3) (c2 : μ'.1 17 = μ.1 17) (ha : ∀ j, j = 3 ∨ (12 ≤ j ∧ j < 24) → b j = a j) : pG1 μ' b H := by
  obtain ⟨h1, h2, h3, h4⟩ := h
  exact ⟨c1.trans h1, (ha 3 (by omega)).trans h2, h3, fun k hk => by rw [c2, ha _ (by omega)]; exact h4 k hk⟩
theorem pG2_C {μ μ' : zz_Mem} {a b : Nat → Int32} {I : Nat} (h : pG2 μ a I) (c0 : μ'.1 16 5 = μ.1 16 5) (c1 : μ'.1 18 = μ.1 18) (c2 : μ'.1 19 = μ.1 19) (c3 : μ'.1 20 = μ.1 20) (c4 : μ'.1 21 = μ.1 21) (c5 : μ'.1 28 = μ.1 28) (ha : ∀ j, j = 4 ∨ (24 ≤ j ∧ j < 56) ∨ (66 ≤ j ∧ j < 74) → b j = a j) : pG2 μ' b I := by
  obtain ⟨h1, h2, h3, h4⟩ := h
  exact ⟨c0.trans h1, (ha 4 (by omega)).trans h2, h3, fun i hi => pDi_C (h4 i hi) (by rw [c1]) (by rw [c2]) (by rw [c3]) (by rw [c4]) (by rw [c5]) (ha _ (by omega)) (ha _ (by omega)) (ha _ (by omega)) (ha _ (by omega)) (ha _ (by omega))⟩
theorem pG3_C {μ μ' : zz_Mem} {a b : Nat → Int32} {F : Nat} (h : pG3 μ a F) (c0 : μ'.1 16 10 = μ.1 16 10) (c1 : μ'.1 22 = μ.1 22) (c2 : μ'.1 29 = μ.1 29) (ha : ∀ j, j = 5 ∨ (56 ≤ j ∧ j < 66) ∨ (75 ≤ j ∧ j < 85) → b j = a j) : pG3 μ' b F := by
  obtain ⟨h1, h2, h3, h4⟩ := h
  exact ⟨c0.trans h1, (ha 5 (by omega)).trans h2, h3, fun k hk => pDw_C (h4 k hk) (by rw [c1]) (by rw [c2]) (ha _ (by omega)) (ha _ (by omega))⟩
theorem pG4_C {μ μ' : zz_Mem} {a b : Nat → Int32} {N : Nat} (h : pG4 μ a N) (c0 : μ'.1 23 = μ.1 23) (c1 : μ'.1 24 = μ.1 24) (ha : ∀ j, (6 ≤ j ∧ j < 12) ∨ 276 ≤ j → b j = a j) : pG4 μ' b N := by
  obtain ⟨h1, h2, h3, h4⟩ := h
  exact ⟨by rw [c0]; exact h1, (ha 276 (by omega)).trans h2, pDlw_C h3 (Nat.le_refl _) (by rw [c0]) (by rw [c0]) (ha _ (by omega)) (ha _ (by omega)) (ha _ (by omega)) (fun j hj => ⟨ha _ (by omega), by rw [c1]⟩), pDlw_C h4 (Nat.le_refl _) (by rw [c0]) (by rw [c0]) (ha _ (by omega)) (ha _ (by omega)) (ha _ (by omega)) (fun j hj => ⟨ha _ (by omega), by rw [c1]⟩)⟩
theorem pn_of {a : Nat → Int32} {k x : Nat} (h : a k = nI x) (hx : x < 2147483648) : pv_n a k = x := by unfold pv_n; rw [h, nI_clamp hx]
theorem pnn_of {a : Nat → Int32} {k x Q : Nat} (h : a k = nI x) (hx : x ≤ Q) (hQ : Q < 2147483648) : pv_nn a k Q := by
  have e := pn_of h (by omega)
  unfold pv_nn
  rw [e]
  exact ⟨h, hx⟩
theorem pDlw_law {μ : zz_Mem} {a : Nat → Int32} {N law sh lo hi : Nat} {t : Bool} (hN : N ≤ 900) (h : pDlw μ a N law sh lo hi t) : pc_law μ 16 a law sh ∧ pv_law a law lo hi t := by
  rcases h with ⟨h0, h1⟩ | ⟨h1, fr, C, q1, q2, q3, q4, q5, q6, q7, q8⟩
  · have n1 : ¬ a (6 + law) = 1 := by rw [h0]; decide
    exact ⟨⟨fun _ => h1, fun z => absurd z n1⟩, Or.inl h0, fun z => absurd z n1⟩
  · have n0 : ¬ a (6 + law) = 0 := by rw [h1]; decide
    have e8 := pn_of q3 (by omega)
    have e10 := pn_of q4 (by omega)
    have ec : pd_codes a law = C := by
      unfold pd_codes
      rw [e8, e10]
      apply List.ext_getElem
      · simp
      · intro i g1 g2
        rw [List.getElem_map, List.getElem_range]
        have := (q8 i g2).1
        rw [List.getD_eq_getElem?_getD, List.getElem?_eq_getElem g2] at this
        rw [Nat.add_assoc]
        exact this
    refine ⟨⟨fun z => absurd z n0, fun _ => ?_⟩, Or.inr h1, fun _ => ⟨pnn_of q3 (by omega) (by omega), pnn_of q4 (by omega) (by omega), by omega, by omega, by rw [ec]; exact q7⟩⟩
    rw [e8, e10]
    refine ⟨q5, q6, fun j hj => ?_⟩
    obtain ⟨z1, z2⟩ := q8 j hj
    show μ.1 24 (fr + j) = _
    rw [z2, Nat.add_assoc, z1]
/-- what the draft gives at the end -/
theorem pDx_out {μ : zz_Mem} {a : Nat → Int32} {H I F N l : Nat} (h : pDx μ a H I F N l) (hN : N ≤ 900) (hl : l ≤ 2000) : pc_plan μ 16 a ∧ pc_stand μ 27 (pN a) (pF a) (fun k => a (66 + k)) ∧ pv_D a ∧ pv_S a (fun k => a (66 + k)) := by
  obtain ⟨⟨h1, h2, h3, h4⟩, ⟨i1, i2, i3, i4⟩, ⟨f1, f2, f3, f4⟩, ⟨n1, n2, n3, n4⟩, d0, d1, d2, d3, d4, d5, ⟨x1, x2, x3⟩, ⟨y1, y2, y3⟩⟩ := h
  have eH := pn_of h2 (by omega)
  have eI := pn_of i2 (by omega)
  have eF := pn_of f2 (by omega)
  have eIN : pN a = I := eI
  have eFN : pF a = F := eF
  obtain ⟨r1, r2⟩ := pDlw_law hN n3
  obtain ⟨o1, o2⟩ := pDlw_law hN n4
  have hin : ∀ i, i < I → pv_in a i ∧ (μ.1 18 i = a (24 + i) ∧ μ.1 19 i = a (32 + i) ∧ μ.1 20 i = a (40 + i) ∧ μ.1 21 i = a (48 + i)) ∧ μ.1 28 i = a (66 + i) ∧ 0 ≤ (a (66 + i)).toInt ∧ (a (66 + i)).toInt ≤ 999 := fun i hi => by
    obtain ⟨kd, st, en, ev, ra, b1, b2, b3, b4, b5, b6, b7, b8, b9, ⟨g1, g2, g3, g4, g5⟩, c1, c2, c3, c4, c5⟩ := i4 i hi
    refine ⟨?_, ⟨c1.trans g1.symm, c2.trans g2.symm, c3.trans g3.symm, c4.trans g4.symm⟩, c5.trans g5.symm, ?_, ?_⟩
    · have k1 := pn_of g1 (by omega)
      have k2 := pn_of g2 (by omega)
      have k3 := pn_of g3 (by omega)
      have k4 := pn_of g4 (by omega)
      unfold pv_in
      rw [k1, k2, k3, k4]
      exact ⟨pnn_of g1 b1 (by omega), pnn_of g2 b2 (by omega), pnn_of g3 b3 (by omega), pnn_of g4 b4 (by omega), b6, b7, b8, b9⟩
    · rw [g5, nI_toInt (by omega)]; omega
    · rw [g5, nI_toInt (by omega)]; omega
  refine ⟨⟨d0, d1, d2.trans d3.symm, h1.trans h2.symm, i1.trans i2.symm, f1.trans f2.symm, fun k hk => ?_, fun i hi => ?_, fun k hk => ?_, r1, o1⟩, ⟨d4, fun i hi => ?_, fun k hk => ?_⟩, ⟨pnn_of d3 hl (by omega), pnn_of x3 x2 (by omega), pnn_of y3 y2 (by omega), pnn_of h2 h3 (by omega), pnn_of i2 i3 (by omega), pnn_of f2 f3 (by omega), r2, o2, fun i hi => ?_, fun k hk => ?_⟩, fun i hi => ?_, fun k hk => ?_⟩
  · rw [eH] at hk; exact h4 k hk
  · rw [eI] at hi; exact (hin i hi).2.1
  · rw [eF] at hk
    obtain ⟨⟨x, w1, w2, w3⟩, -⟩ := f4 k hk
    exact w3.trans w2.symm
  · rw [eIN] at hi; exact (hin i hi).2.2.1
  · rw [eFN] at hk
    have := (f4 k hk).2.1
    show μ.1 29 k = a (66 + (9 + k))
    rw [show 66 + (9 + k) = 75 + k by omega]
    exact this
  · rw [eI] at hi; exact (hin i hi).1
  · rw [eF] at hk
    obtain ⟨⟨x, w1, w2, w3⟩, -⟩ := f4 k hk
    exact pnn_of w2 w1 (by omega)
  · rw [eIN] at hi; exact (hin i hi).2.2.2
  · rw [eFN] at hk
    have := (f4 k hk).2.2
    show -999 ≤ (a (66 + (9 + k))).toInt ∧ (a (66 + (9 + k))).toInt ≤ 999
    rw [show 66 + (9 + k) = 75 + k by omega]
    exact this
/-- what stays while a desk is read -/
def pWc (μ μ' : zz_Mem) : Prop := pq_fr [16, 17, 18, 19, 20, 21, 22, 23, 24, 27, 28, 29, 30] μ μ' ∧ μ'.2 = μ.2 ∧ p8 μ μ'
def pWr (ν ν' : zz_Mem) : Prop := pq_fr [0, 4] ν ν' ∧ ν'.2 = ν.2 ∧ ∀ j, (j < 6 ∨ j = 13 ∨ j = 14) → ν'.1 0 j = ν.1 0 j
theorem pWc0 (μ : zz_Mem) : pWc μ μ := ⟨pq_fr0 μ, rfl, fun z => ⟨z, rfl⟩⟩
theorem pWr0 (ν : zz_Mem) : pWr ν ν := ⟨pq_fr0 ν, rfl, fun _ _ => rfl⟩
theorem pWcT {μ μ1 μ2 : zz_Mem} (h : pWc μ μ1) (g : pWc μ1 μ2) : pWc μ μ2 := ⟨pq_frT h.1 g.1, g.2.1.trans h.2.1, p8T h.2.2 g.2.2⟩
theorem pWrT {ν ν1 ν2 : zz_Mem} (h : pWr ν ν1) (g : pWr ν1 ν2) : pWr ν ν2 := ⟨pq_frT h.1 g.1, g.2.1.trans h.2.1, fun j hj => (g.2.2 j hj).trans (h.2.2 j hj)⟩
theorem pWc_N {μ μ1 μ2 : zz_Mem} (h : pWc μ μ1) (g : pNx μ1 μ2) : pWc μ μ2 := pWcT h ⟨pq_frW g.1 (by simp), g.2.1, g.2.2.2.2⟩
theorem pWr_Z {ν ν1 ν2 : zz_Mem} (h : pWr ν ν1) (g : pNz ν1 ν2) : pWr ν ν2 := pWrT h ⟨pq_frW g.1 (by simp), g.2.1, fun j hj => g.2.2 j (by omega)⟩
theorem pWc_E {μ μ1 μ2 : zz_Mem} (h : pWc μ μ1) (g : pEc μ1 μ2) : pWc μ μ2 := pWcT h ⟨pq_frW g.1 (by simp), g.2.1, g.2.2.2.2.2⟩
theorem pWr_E {ν ν1 ν2 : zz_Mem} (h : pWr ν ν1) (g : pEr ν1 ν2) : pWr ν ν2 := pWrT h ⟨g.1, g.2.1, fun j hj => g.2.2.1 j (by omega)⟩
theorem pWc_I {μ μ1 : zz_Mem} (h : pWc μ μ1) {k : Nat} (hk : k ∈ [16, 17, 18, 19, 20, 21, 22, 23, 24, 27, 28, 29]) (i : Nat) (v : Int32) : pWc μ (zz_setI μ1 k i v) := by
  have h30 : (30 : Nat) ≠ k := fun z => by subst z; exact absurd hk (by decide)
  refine pWcT h ⟨pq_frI (pq_fr0 μ1) i v ?_, rfl, fun z => ?_⟩
  · simp only [List.mem_cons, List.not_mem_nil, or_false] at hk ⊢
    omega
  · rw [qx_in h30] at z
    exact ⟨z, by rw [qx_in h30]⟩
theorem pWc_9 {μ μ1 : zz_Mem} (h : pWc μ μ1) (v : Int32) : pWc μ (zz_setI μ1 30 9 v) := pWcT h ⟨pq_frI (pq_fr0 μ1) _ _ (by simp), rfl, fun z => by
  rw [qx_isN (by decide)] at z
  exact ⟨z, qx_isN (by decide)⟩⟩
theorem pWr_I {ν ν1 : zz_Mem} (h : pWr ν ν1) (i : Nat) (v : Int32) : pWr ν (zz_setI ν1 4 i v) := ⟨pq_frI h.1 i v (by simp), h.2.1, h.2.2⟩
theorem pWr_15 {ν ν1 : zz_Mem} (h : pWr ν ν1) (v : Int32) : pWr ν (zz_setI ν1 0 15 v) := ⟨pq_frI h.1 _ v (by simp), h.2.1, fun j hj => by rw [qx_isN (by omega)]; exact h.2.2 j hj⟩
def pQd (B : Nat → Nat) (len e l : Nat) (μ ν : zz_Mem) : Prop := (∃ p H I F N, e ≤ p ∧ pOK B len p μ ν ∧ pDx μ (ν.1 4) H I F N l ∧ N ≤ p) ∨ (∃ p, pBad B len p μ ν) ∨ ∃ w p, pFld B len w p μ ν
theorem pQd_mk {B : Nat → Nat} {len e l : Nat} {μ ν : zz_Mem} (h : pQm B len e μ ν) (hd : ∀ p, e ≤ p → pOK B len p μ ν → ∃ H I F N, pDx μ (ν.1 4) H I F N l ∧ N ≤ p) : pQd B len e l μ ν := by
  rcases h with ⟨p, h1, h⟩ | h | h
  · obtain ⟨H, I, F, N, q1, q2⟩ := hd p h1 h
    exact Or.inl ⟨p, H, I, F, N, h1, h, q1, q2⟩
  · exact Or.inr (Or.inl h)
  · exact Or.inr (Or.inr h)
theorem pOK_7 {B : Nat → Nat} {len p : Nat} {μ ν : zz_Mem} (h : pOK B len p μ ν) : μ.1 30 7 = 0 := h.2.2.2.2.2.2.2.1
theorem pOK_11 {B : Nat → Nat} {len p : Nat} {μ ν : zz_Mem} (h : pOK B len p μ ν) : ν.1 0 11 = 0 := h.2.2.2.2.2.2.2.2.2.2.2.1
/-- a line of one kind, in both -/
def pLn (B : Nat → Nat) (len t : Nat) (F G : zz_Mem → Option zz_Mem) : Prop := ∀ p μ ν H I Fl N l, pOK B len p μ ν → pkK B len p = t → pDx μ (ν.1 4) H I Fl N l → N ≤ p → ∃ μ' ν', F μ = some μ' ∧ G ν = some ν' ∧ pWc μ μ' ∧ pWr ν ν' ∧ pQd B len (p + 1) l μ' ν'
