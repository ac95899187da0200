/-! ===== 80: feed; images ===== -/
theorem pc_feedW (w : Int32) {m : zz_Mem} {L : Nat} (hL : L + 4 ≤ 900) (h1 : m.1 0 1 = nI L) : ∃ m', f_X11_feedWord w m = some m' ∧ pq_fr [0, 1] m m' ∧ m'.1 0 1 = nI (L + 4) ∧ (∀ j, j ≠ 1 → m'.1 0 j = m.1 0 j) ∧ (∀ i, i < 4 → m'.1 1 (L + i) &&& 255 = nI (pby w i)) ∧ ∀ j, j < L → m'.1 1 j = m.1 1 j := by
  have hfu : zz_fuel = 5000 := rfl
  have l0 : (0 : Int32) = iI 0 := rfl
  have l8 : (-8 : Int32) = iI (-8) := rfl
  have l900 : (900 : Int32) = nI 900 := rfl
  have loop : ∀ (r i fuel : Nat) (m1 : zz_Mem), i + r = 4 → r < fuel → pq_fr [0, 1] m m1 → m1.1 0 1 = nI (L + i) → (∀ j, j ≠ 1 → m1.1 0 j = m.1 0 j) → (∀ j, j < i → m1.1 1 (L + j) &&& 255 = nI (pby w j)) → (∀ j, j < L → m1.1 1 j = m.1 1 j) → ∃ m', f_X11_feedWord_3 fuel w (iI (24 - 8 * (i : Int))) m1 = some m' ∧ pq_fr [0, 1] m m' ∧ m'.1 0 1 = nI (L + 4) ∧ (∀ j, j ≠ 1 → m'.1 0 j = m.1 0 j) ∧ (∀ i, i < 4 → m'.1 1 (L + i) &&& 255 = nI (pby w i)) ∧ ∀ j, j < L → m'.1 1 j = m.1 1 j := by
    intro r
    induction r with
    | zero =>
      intro i fuel m1 e1 e2 f e3 e4 e5 e6
      obtain ⟨fu, rfl⟩ : ∃ n, fuel = n + 1 := ⟨fuel - 1, by omega⟩
      have : i = 4 := by omega
      subst this
      rw [f_X11_feedWord_3, l0, if_pos (by rw [iI_lt (by omega) (by omega) (by omega) (by omega)]; omega)]
      exact ⟨m1, rfl, f, e3, e4, e5, e6⟩
    | succ r ih =>
      intro i fuel m1 e1 e2 f e3 e4 e5 e6
      obtain ⟨fu, rfl⟩ : ∃ n, fuel = n + 1 := ⟨fuel - 1, by omega⟩
      have ei : iI (24 - 8 * (i : Int)) = nI (24 - 8 * i) := by rw [iI_nI]; congr 1; omega
      rw [f_X11_feedWord_3, l0, if_neg (by rw [iI_lt (by omega) (by omega) (by omega) (by omega)]; omega), e3, l900, if_neg (nI_ge (by omega) (by omega)), pq_ixE (by omega) (by decide), nI_clamp (by omega), pq_letM]
      have e3' : ∀ v, (zz_setI m1 1 (L + i) v).1 0 1 = nI (L + i) := fun v => by rw [pz_In _ _ _ (by decide)]; exact e3
      rw [e3', nI_1, pq_letM, l8, iI_add, pq_letI, ei]
      have e9 : (24 - 8 * (i : Int)) + -8 = 24 - 8 * ((i + 1 : Nat) : Int) := by omega
      rw [e9]
      exact ih (i + 1) fu _ (by omega) (by omega) (pq_frI (pq_frI f _ _ (by simp)) _ _ (by simp)) qx_isE (fun j hj => by rw [qx_isN hj, pz_In _ _ _ (by decide)]; exact e4 j hj) (fun j hj => by
        rw [pz_In _ _ _ (by decide)]
        by_cases c : j = i
        · rw [c, qx_isE]; exact pby_c w (by omega)
        · rw [qx_isN (by omega)]; exact e5 j (by omega)) (fun j hj => by rw [pz_In _ _ _ (by decide), qx_isN (by omega)]; exact e6 j hj)
  unfold f_X11_feedWord
  exact loop 4 0 zz_fuel m (by omega) (by omega) (pq_fr0 m) h1 (fun _ _ => rfl) (fun j hj => absurd hj (Nat.not_lt_zero _)) (fun _ _ => rfl)
def pwd (a b c d e : Int32) (k : Nat) : Int32 := if k < 4 then a else if k < 8 then b else if k < 12 then c else if k < 16 then d else e
theorem pr_feed (a b c d e : Int32) {m : zz_Mem} {L : Nat} (hL : L + 20 ≤ 900) (h1 : m.1 0 5 = nI L) : ∃ m', f_X12_feed_24 zz_fuel a b c d e 0 m = some (nI (L + 20), m') ∧ pq_fr [0, 3] m m' ∧ m'.1 0 5 = nI (L + 20) ∧ (∀ j, j ≠ 5 → m'.1 0 j = m.1 0 j) ∧ (∀ k, k < 20 → m'.1 3 (L + k) = nI (pby (pwd a b c d e k) (k % 4))) ∧ ∀ j, j < L → m'.1 3 j = m.1 3 j := by
  have hfu : zz_fuel = 5000 := rfl
  have l20 : (20 : Int32) = nI 20 := rfl
  have l16 : (16 : Int32) = nI 16 := rfl
  have l12 : (12 : Int32) = nI 12 := rfl
  have l8 : (8 : Int32) = nI 8 := rfl
  have l4 : (4 : Int32) = nI 4 := rfl
  have l24 : (24 : Int32) = nI 24 := rfl
  have loop : ∀ (r k fuel : Nat) (m1 : zz_Mem), k + r = 20 → r < fuel → pq_fr [0, 3] m m1 → m1.1 0 5 = nI (L + k) → (∀ j, j ≠ 5 → m1.1 0 j = m.1 0 j) → (∀ j, j < k → m1.1 3 (L + j) = nI (pby (pwd a b c d e j) (j % 4))) → (∀ j, j < L → m1.1 3 j = m.1 3 j) → ∃ m', f_X12_feed_24 fuel a b c d e (nI k) m1 = some (nI (L + 20), m') ∧ pq_fr [0, 3] m m' ∧ m'.1 0 5 = nI (L + 20) ∧ (∀ j, j ≠ 5 → m'.1 0 j = m.1 0 j) ∧ (∀ k, k < 20 → m'.1 3 (L + k) = nI (pby (pwd a b c d e k) (k % 4))) ∧ ∀ j, j < L → m'.1 3 j = m.1 3 j := by
    intro r
    induction r with
    | zero =>
      intro k fuel m1 e1 e2 f e3 e4 e5 e6
      obtain ⟨fu, rfl⟩ : ∃ n, fuel = n + 1 := ⟨fuel - 1, by omega⟩
      have : k = 20 := by omega
      subst this
      rw [f_X12_feed_24, l20, if_pos (Int32.le_refl _), e3]
      exact ⟨m1, rfl, f, e3, e4, e5, e6⟩
    | succ r ih =>
      intro k fuel m1 e1 e2 f e3 e4 e5 e6
      obtain ⟨fu, rfl⟩ : ∃ n, fuel = n + 1 := ⟨fuel - 1, by omega⟩
      have hsel : f_X12_feed_24 (fu + 1) a b c d e (nI k) m1 = f_X12_feed_77 (f_X12_feed_24 fu) a b c d e (nI k) (pwd a b c d e k) m1 := by
        rw [f_X12_feed_24, l20, if_neg (nI_ge (by omega) (by omega)), l4, l8, l12, l16]
        unfold pwd
        by_cases c1 : k < 4
        · rw [if_neg (nI_ge (by omega) (by omega)), if_pos c1]
        · rw [if_pos (nI_le (by omega) (by omega)), if_neg c1]
          by_cases c2 : k < 8
          · rw [if_neg (nI_ge (by omega) (by omega)), if_pos c2]
          · rw [if_pos (nI_le (by omega) (by omega)), if_neg c2]
            by_cases c3 : k < 12
            · rw [if_neg (nI_ge (by omega) (by omega)), if_pos c3]
            · rw [if_pos (nI_le (by omega) (by omega)), if_neg c3]
              by_cases c4 : k < 16
              · rw [if_neg (nI_ge (by omega) (by omega)), if_pos c4]
              · rw [if_pos (nI_le (by omega) (by omega)), if_neg c4]
      rw [hsel]
      unfold f_X12_feed_77
      have hk4 : k % 4 < 4 := Nat.mod_lt _ (by decide)
      rw [e3, pq_ixE (by omega) (by decide), nI_clamp (by omega), l4, pk_rem (by omega) (by decide) (by decide), l8, pk_mul, l24, pk_sub (by omega), pby_r _ hk4, pq_letM]
      have e3' : ∀ v, (zz_setI m1 3 (L + k) v).1 0 5 = nI (L + k) := fun v => by rw [pz_In _ _ _ (by decide)]; exact e3
      rw [e3', nI_1, pq_letM, pq_letI, nI_1]
      exact ih (k + 1) fu _ (by omega) (by omega) (pq_frI (pq_frI f _ _ (by simp)) _ _ (by simp)) qx_isE (fun j hj => by rw [qx_isN hj, pz_In _ _ _ (by decide)]; exact e4 j hj) (fun j hj => by
        rw [pz_In _ _ _ (by decide)]
        by_cases c : j = k
        · rw [c, qx_isE]
        · rw [qx_isN (by omega)]; exact e5 j (by omega)) (fun j hj => by rw [pz_In _ _ _ (by decide), qx_isN (by omega)]; exact e6 j hj)
  have := loop 20 0 zz_fuel m (by omega) (by omega) (pq_fr0 m) h1 (fun _ _ => rfl) (fun j hj => absurd hj (Nat.not_lt_zero _)) (fun _ _ => rfl)
  rw [nI_0] at this
  exact this
theorem op_feed : zL_op0 pI := by
  intro n μ ν p1 p2 p3 p4 p5 ⟨a, hv, hS, hc, hr, hx⟩
  have k0 := pr_t0 hr 0 (by decide) 0
  unfold f_X11_feed f_X12_feed
  rw [pq_letM]
  have hx1 := pI_xK hx (pK_c0 μ) k0.1
  have fin := pI_mk hv hS hx hc (pK_c0 μ) k0.2.1 k0.1
  generalize zz_setI ν 0 0 0 = ν1 at *
  obtain ⟨x1, x2, x3, x4, x5, x6⟩ := hx1
  obtain ⟨L, l1, l2, l3, l4⟩ := x4
  have l20 : (20 : Int32) = nI 20 := rfl
  have l900 : (900 : Int32) = nI 900 := rfl
  rw [l2, l3, l20, nI_add, l900]
  by_cases c : L + 20 ≤ 900
  · rw [if_pos (nI_le c (by omega)), if_pos (nI_le c (by omega))]
    obtain ⟨m1, a1, a2, a3, a4, a5, a6⟩ := pc_feedW p1 (m := μ) (L := L) (by omega) l2
    obtain ⟨m2, b1, b2, b3, b4, b5, b6⟩ := pc_feedW p2 (m := m1) (L := L + 4) (by omega) a3
    obtain ⟨m3, c1, c2, c3, c4, c5, c6⟩ := pc_feedW p3 (m := m2) (L := L + 4 + 4) (by omega) b3
    obtain ⟨m4, d1, d2, d3, d4, d5, d6⟩ := pc_feedW p4 (m := m3) (L := L + 4 + 4 + 4) (by omega) c3
    obtain ⟨m5, e1, e2, e3, e4, e5, e6⟩ := pc_feedW p5 (m := m4) (L := L + 4 + 4 + 4 + 4) (by omega) d3
    obtain ⟨ν2, f1, f2, f3, f4, f5, f6⟩ := pr_feed p1 p2 p3 p4 p5 (m := ν1) (L := L) c l3
    rw [a1, pq_bndS, b1, pq_bndS, c1, pq_bndS, d1, pq_bndS, e1, pq_bndS, e3, f1]
    have fz : pq_fr [0, 1] μ m5 := pq_frT a2 (pq_frT b2 (pq_frT c2 (pq_frT d2 e2)))
    have r0 : ∀ j, j ≠ 1 → m5.1 0 j = μ.1 0 j := fun j hj => by rw [e4 j hj, d4 j hj, c4 j hj, b4 j hj, a4 j hj]
    have er : ν2.1 1 = ν1.1 1 := (f2 1 (by simp)).1
    have es : pr_st ν2 = pr_st ν := by rw [← k0.2.2]; unfold pr_st; rw [er]
    refine ⟨_, m5, ν2, rfl, rfl, a, hv, by rw [es]; exact hS, ?_, ⟨by rw [er]; exact k0.2.1.1, pr_schedF k0.2.1.2 f2 (fun j g1 g2 => by simp <;> omega)⟩, ?_⟩
    · rw [es]
      obtain ⟨h1, h2, h3, h4, h5, h6, h7⟩ := hc
      refine ⟨pc_planF h1 fz (fun j hj => by simp <;> omega), pc_standF h2 fz (by simp) (by simp) (by simp), ?_, pc_schedF h4 fz (fun j g1 g2 => by simp <;> omega), ?_, ?_, ?_⟩
      · unfold pc_known; rw [(fz 82 (by simp)).1]; exact h3
      · unfold pc_fb; rw [(fz (83 + 2) (by simp)).1]; exact h5
      · unfold pc_fb; rw [(fz (88 + 2) (by simp)).1]; exact h6
      · unfold pc_now pc_cv pc_cnt; rw [r0 18 (by decide), (fz (83 + 1) (by simp)).1, (fz (83 + 2) (by simp)).1]; exact h7
    · refine ⟨pX_pastF hv x1 (fun k k1 k2 => (fz k (by simp <;> omega)).1) (fun j _ _ => by rw [er]), fun t ht => ?_, fun i hi => ?_, ?_, ?_, ?_⟩
      · have := x2 t ht
        unfold pX_tray at this ⊢
        rw [(fz (99 + 2 * t) (by simp <;> omega)).1, (fz (99 + 2 * t + 1) (by simp <;> omega)).2.1, (f2 23 (by simp)).1, (f2 24 (by simp)).1, (f2 25 (by simp)).2.1]
        exact this
      · have := x3 i hi
        unfold pX_img pr_img at this ⊢
        rw [(fz 32 (by simp)).2.2, (f2 2 (by simp)).1, er]
        rcases this with h | ⟨o, o1, o2, o3, o4, o5, o6⟩
        · exact Or.inl h
        · exact Or.inr ⟨o, o1, o2, o3, pc_planF o4 fz (fun j hj => by simp <;> omega), pc_standF o5 fz (by simp <;> omega) (by simp) (by simp), o6⟩
      · refine ⟨L + 20, c, e3, f3, fun j hj => ?_⟩
        by_cases cj : j < L
        · obtain ⟨bb, q1, q2, q3⟩ := l4 j cj
          refine ⟨bb, q1, by rw [f6 j cj]; exact q2, ?_⟩
          rw [e6 j (by omega), d6 j (by omega), c6 j (by omega), b6 j (by omega), a6 j (by omega)]; exact q3
        · obtain ⟨k, rfl⟩ : ∃ k, j = L + k := ⟨j - L, by omega⟩
          refine ⟨_, pby_b _ _, f5 k (by omega), ?_⟩
          unfold pwd
          by_cases k1 : k < 4
          · rw [if_pos k1, show k % 4 = k by omega, e6 _ (by omega), d6 _ (by omega), c6 _ (by omega), b6 _ (by omega)]; exact a5 k k1
          rw [if_neg k1]
          by_cases k2 : k < 8
          · rw [if_pos k2, show k % 4 = k - 4 by omega, e6 _ (by omega), d6 _ (by omega), c6 _ (by omega), show L + k = L + 4 + (k - 4) by omega]; exact b5 (k - 4) (by omega)
          rw [if_neg k2]
          by_cases k3 : k < 12
          · rw [if_pos k3, show k % 4 = k - 8 by omega, e6 _ (by omega), d6 _ (by omega), show L + k = L + 4 + 4 + (k - 8) by omega]; exact c5 (k - 8) (by omega)
          rw [if_neg k3]
          by_cases k4 : k < 16
          · rw [if_pos k4, show k % 4 = k - 12 by omega, e6 _ (by omega), show L + k = L + 4 + 4 + 4 + (k - 12) by omega]; exact d5 (k - 12) (by omega)
          rw [if_neg k4, show k % 4 = k - 16 by omega, show L + k = L + 4 + 4 + 4 + 4 + (k - 16) by omega]; exact e5 (k - 16) (by omega)
      · rw [r0 2 (by decide), r0 3 (by decide), f4 13 (by decide), f4 14 (by decide)]; exact x5
      · unfold pX_refs at x6 ⊢; rw [(fz 30 (by simp)).2.2, (fz 32 (by simp)).2.2]; exact x6
  · rw [if_neg (nI_ge (by omega) (by omega)), if_neg (nI_ge (by omega) (by omega))]
    exact ⟨_, _, _, rfl, rfl, fin⟩
