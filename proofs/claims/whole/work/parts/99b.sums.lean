/-! ===== 99b: sums ===== -/
def pSc2 (t : Nat) : Option Int32 := if t = 34 then some 3000 else if t = 35 then some 3001 else none
theorem pSc2_s {t : Nat} {c : Int32} (h : pSc2 t = some c) : (t = 34 ∧ c = 3000) ∨ (t = 35 ∧ c = 3001) := by
  unfold pSc2 at h
  by_cases a : t = 34
  · rw [if_pos a] at h; exact Or.inl ⟨a, by simpa using h.symm⟩
  · rw [if_neg a] at h
    by_cases b : t = 35
    · rw [if_pos b] at h; exact Or.inr ⟨b, by simpa using h.symm⟩
    · rw [if_neg b] at h; exact absurd h (by simp)
theorem pSc2_n {t : Nat} (h : pSc2 t = none) : t ≠ 34 ∧ t ≠ 35 := by
  unfold pSc2 at h
  refine ⟨fun z => ?_, fun z => ?_⟩
  · rw [if_pos z] at h; exact absurd h (by simp)
  · rw [z] at h; exact absurd h (by decide)
theorem ps_sums {B : Nat → Nat} {len sh lo hi N p D : Nat} {μ ν : zz_Mem} {g g' : Nat → Int32 → zz_Mem → Option zz_Mem} {d : Int32} (hlw : pLw sh lo hi μ ν) (hN : N ≤ p) (hl : len ≤ 900) (hz : pZd B len (g 1 d) (g' 1 d)) (hs : pGr B len sh lo hi false D (g 1 d) (g' 1 d)) :
    ∀ (r k fuel fuel' : Nat) (μ1 ν1 : zz_Mem), k + r = 900 → r < fuel → r < fuel' → pSt2 B len sh lo hi N p μ ν [false] 0 (D + 1) k μ1 ν1 → ∃ μ2 ν2, f_X7_readSum_7 g fuel d (nI k) μ1 = some μ2 ∧ f_X12_readSum_5 g' fuel' d ν1 = some ν2 ∧ pSt2 B len sh lo hi N p μ ν [false] 0 (D + 1) 0 μ2 ν2 := by
  have l900 : (900 : Int32) = nI 900 := rfl
  have hL : ∀ fuel k p1 m n, pOK B len p1 m n → k < 900 → (∀ c, pSc2 (pkK B len p1) = some c → f_X7_readSum_7 g (fuel + 1) d (nI k) m = (zz_bndR (f_X7_next m) fun m1 => zz_bndR (g 1 d m1) fun m2 => zz_bndR (f_X3_add (pe_cm sh c) m2) fun m3 => f_X7_readSum_7 g fuel d (nI (k + 1)) m3)) ∧ (pSc2 (pkK B len p1) = none → f_X7_readSum_7 g (fuel + 1) d (nI k) m = some m) := by
    intro fuel k p1 m n o hk
    have e1 : m.1 30 4 = 43 ↔ pkK B len p1 = 34 := po_sign o (i := 2) (by omega)
    have e2 : m.1 30 4 = 45 ↔ pkK B len p1 = 35 := po_sign o (i := 3) (by omega)
    refine ⟨fun c hc => ?_, fun hc => ?_⟩
    · rw [f_X7_readSum_7, l900, if_neg (nI_ge (by omega) (by omega))]
      unfold f_X7_readSum_32 f_X7_readSum_50
      rcases pSc2_s hc with ⟨a, rfl⟩ | ⟨a, rfl⟩
      · rw [if_pos (e1.mpr a), if_pos (e1.mpr a)]
        simp only [pq_letI, nI_1]
        rfl
      · have n1 : ¬ m.1 30 4 = 43 := fun z => by have := e1.mp z; omega
        rw [if_neg n1, if_pos (e2.mpr a), if_neg n1]
        simp only [pq_letI, nI_1]
        rfl
    · obtain ⟨a, b⟩ := pSc2_n hc
      rw [f_X7_readSum_7, l900, if_neg (nI_ge (by omega) (by omega)), if_neg (fun z => a (e1.mp z)), if_neg (fun z => b (e2.mp z))]
  have hL9 : ∀ fuel m, f_X7_readSum_7 g (fuel + 1) d (nI 900) m = some m := fun fuel m => by
    rw [f_X7_readSum_7, l900, if_pos (Int32.le_refl _)]
  have hL0 : ∀ fuel k w p1 m, pSto B len w p1 m → f_X7_readSum_7 g (fuel + 1) d (nI k) m = some m := fun fuel k w p1 m s => by
    rw [f_X7_readSum_7, s.2.2.1, if_neg (show ¬ (3 : Int32) = 43 by decide), if_neg (show ¬ (3 : Int32) = 45 by decide)]
    split <;> rfl
  have hR : ∀ fuel p1 m n, pOK B len p1 m n → (∀ c, pSc2 (pkK B len p1) = some c → f_X12_readSum_5 g' (fuel + 1) d n = (zz_bndR (f_X12_next n) fun m1 => zz_bndR (g' 1 d m1) fun m2 => zz_bndR (f_X12_codes c m2) fun m3 => f_X12_readSum_5 g' fuel d m3)) ∧ (pSc2 (pkK B len p1) = none → f_X12_readSum_5 g' (fuel + 1) d n = some n) := by
    intro fuel p1 m n o
    have e1 : f_X12_is n 34 = some (pd_b (decide (pkK B len p1 = 34))) := pr_isO o (k := 34) (by omega)
    have e2 : f_X12_is n 35 = some (pd_b (decide (pkK B len p1 = 35))) := pr_isO o (k := 35) (by omega)
    have e9 : n.1 0 9 = nI (pkK B len p1) := o.2.2.2.2.2.2.2.2.2.2.1
    refine ⟨fun c hc => ?_, fun hc => ?_⟩
    · rw [f_X12_readSum_5, e1, e2, pq_bndS]
      unfold f_X12_readSum_23 f_X12_readSum_41
      rcases pSc2_s hc with ⟨a, rfl⟩ | ⟨a, rfl⟩
      · rw [decide_eq_true a, if_neg (show ¬ pd_b true = 0 by decide), e9, a, if_pos (show nI 34 = 34 from rfl)]
      · rw [decide_eq_false (by omega), if_pos (show pd_b false = 0 from rfl), pq_bndS, decide_eq_true a, if_neg (show ¬ pd_b true = 0 by decide), e9, a, if_neg (show ¬ nI 35 = 34 by decide)]
    · obtain ⟨a, b⟩ := pSc2_n hc
      rw [f_X12_readSum_5, e1, e2, pq_bndS, decide_eq_false a, if_pos (show pd_b false = 0 from rfl), pq_bndS, decide_eq_false b, if_pos (show pd_b false = 0 from rfl)]
  have hRB : ∀ fuel p1 m n, pBad B len p1 m n → f_X12_readSum_5 g' (fuel + 1) d n = some n := fun fuel p1 m n h => by
    have e1 : f_X12_is n 34 = some 0 := pr_isB h (k := 34) (by omega) (by omega)
    have e2 : f_X12_is n 35 = some 0 := pr_isB h (k := 35) (by omega) (by omega)
    rw [f_X12_readSum_5, e1, pq_bndS, if_pos rfl, e2, pq_bndS, if_pos rfl]
  have hRF : ∀ fuel n, pFx n → f_X12_readSum_5 g' (fuel + 1) d n = some n := fun fuel n h => by
    rw [f_X12_readSum_5, fx_is h, pq_bndS, if_pos rfl, fx_is h, pq_bndS, if_pos rfl]
  intro r
  induction r with
  | zero =>
    intro k fuel fuel' μ1 ν1 h1 h2 h3 h
    obtain ⟨fu, rfl⟩ : ∃ n, fuel = n + 1 := ⟨fuel - 1, by omega⟩
    obtain ⟨fu', rfl⟩ : ∃ n, fuel' = n + 1 := ⟨fuel' - 1, by omega⟩
    obtain rfl : k = 900 := by omega
    refine ⟨μ1, ν1, hL9 fu μ1, ?_, ps_less h (Nat.le_refl _) (Nat.le_refl _) (Nat.zero_le _)⟩
    obtain ⟨hc, hr, h⟩ := h
    rcases h with ⟨p1, C, q0, q1, q2, q3, q4⟩ | ⟨p2, k', q1, q2, q3, q4⟩ | q
    · have k4 := (pkE_b (B := B) q2.2.2.1 (fun j hj => (q2.1.2.1 j hj).1)).2.2.2.1
      have hp1 := q2.2.2.1
      exact (hR fu' p1 μ1 ν1 q2).2 (by rw [k4.mpr (by omega)]; rfl)
    · exact hRB fu' p2 μ1 ν1 q2
    · obtain ⟨⟨w, p1, f⟩, n⟩ := q
      exact hRF fu' ν1 (by unfold pFx; rw [f.2.1]; exact pr_n0 f.1.2.2.2.1)
  | succ r ih =>
    intro k fuel fuel' μ1 ν1 h1 h2 h3 h
    obtain ⟨fu, rfl⟩ : ∃ n, fuel = n + 1 := ⟨fuel - 1, by omega⟩
    obtain ⟨fu', rfl⟩ : ∃ n, fuel' = n + 1 := ⟨fuel' - 1, by omega⟩
    have h' := ps_less h (Nat.le_refl 0) (Nat.le_refl _) (Nat.zero_le k)
    obtain ⟨hc, hr, hh⟩ := id h
    rcases hh with ⟨p1, C, q0, q1, q2, q3, q4⟩ | ⟨p2, k', q1, q2, q3, q4⟩ | q
    · cases hcd : pSc2 (pkK B len p1) with
      | none => exact ⟨μ1, ν1, (hL fu k p1 μ1 ν1 q2 (by omega)).2 hcd, (hR fu' p1 μ1 ν1 q2).2 hcd, h'⟩
      | some c =>
        have ht : pkK B len p1 ≠ 30 := fun z => by rcases pSc2_s hcd with ⟨a, -⟩ | ⟨a, -⟩ <;> omega
        have hx : c = 3000 ∨ c = 3001 ∨ c = 3002 := by rcases pSc2_s hcd with ⟨-, a⟩ | ⟨-, a⟩; exact Or.inl a; exact Or.inr (Or.inl a)
        obtain ⟨μ2, ν2, y1, y2, y3⟩ := ps_next hc hr q0 q1 q2 q3 q4 ht
        obtain ⟨μ3, ν3, z1, z2, z3⟩ := ps_sub (b := false) (D2 := D) (D3 := D + 1) hN hl hz (fun N' p' m n ec er o a1 a2 a3 => hs N' p' m n (pLw_E hlw ec er) o a1 a2 a3) y3 (Nat.le_refl _) (by simp; omega)
        obtain ⟨μ4, ν4, w1, w2, w3⟩ := ps_code (T' := [false]) hN hl (wf_ar hx) z3
        obtain ⟨μ5, ν5, v1, v2, v3⟩ := ih (k + 1) fu fu' μ4 ν4 (by omega) (by omega) (by omega) w3
        refine ⟨μ5, ν5, ?_, ?_, v3⟩
        · rw [(hL fu k p1 μ1 ν1 q2 (by omega)).1 c hcd, y1, pq_bndS, z1, pq_bndS, w1, pq_bndS, v1]
        · rw [(hR fu' p1 μ1 ν1 q2).1 c hcd, y2, pq_bndS, z2, pq_bndS, w2, pq_bndS, v2]
    · exact ⟨μ1, ν1, hL0 fu k 1 p2 μ1 q2.1, hRB fu' p2 μ1 ν1 q2, h'⟩
    · obtain ⟨⟨w, p1, f⟩, n⟩ := q
      exact ⟨μ1, ν1, hL0 fu k w p1 μ1 f.1, hRF fu' ν1 (by unfold pFx; rw [f.2.1]; exact pr_n0 f.1.2.2.2.1), h'⟩
theorem pg_sum {B : Nat → Nat} {len sh lo hi D : Nat} {g g' : Nat → Int32 → zz_Mem → Option zz_Mem} {d : Int32} (hz : pZd B len (g 1 d) (g' 1 d)) (hs : pGr B len sh lo hi false D (g 1 d) (g' 1 d)) : pGr B len sh lo hi false (D + 1) (f_X7_readSum g d) (f_X12_readSum g' d) := by
  intro N p m n hlw ho h1 h2 hN
  have hfu : zz_fuel = 5000 := rfl
  have hl := ho.1.1
  obtain ⟨μ1, ν1, y1, y2, y3⟩ := ps_sub (b := false) (D2 := D) (D3 := D + 1) hN hl hz (fun N' p' m' n' ec er o a1 a2 a3 => hs N' p' m' n' (pLw_E hlw ec er) o a1 a2 a3) (ps_start ho h1 h2) (by omega) (by simp)
  obtain ⟨μ2, ν2, z1, z2, z3⟩ := ps_sums hlw hN hl hz hs 900 0 zz_fuel zz_fuel μ1 ν1 (by omega) (by omega) (by omega) y3
  rw [nI_0] at z1
  refine ⟨μ2, ν2, ?_, ?_, z3⟩
  · unfold f_X7_readSum
    rw [y1, pq_bndS]; exact z1
  · unfold f_X12_readSum
    rw [y2, pq_bndS]; exact z2
