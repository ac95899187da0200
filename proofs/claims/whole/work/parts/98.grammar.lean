/-! ===== 98: the grammar of laws, both readers ===== -/
def pLw (sh lo hi : Nat) (m n : zz_Mem) : Prop := (sh = 0 ∧ lo = 0 ∧ hi = 5 ∧ m.1 30 9 = 1 ∧ n.1 0 15 = 0) ∨ (sh = 5 ∧ lo = 5 ∧ hi = 8 ∧ m.1 30 9 = 0 ∧ n.1 0 15 = 1)
theorem pLw_E {sh lo hi : Nat} {m n m' n' : zz_Mem} (h : pLw sh lo hi m n) (hc : pEc m m') (hr : pEr n n') : pLw sh lo hi m' n' := by
  unfold pLw
  rw [hc.2.2.2.1, hr.2.2.1 15 (by omega)]
  exact h
def pGr (B : Nat → Nat) (len sh lo hi : Nat) (b : Bool) (D : Nat) (F G : zz_Mem → Option zz_Mem) : Prop := ∀ N p m n, pLw sh lo hi m n → pOK B len p m n → m.1 23 3 = nI N → n.1 4 276 = nI N → N ≤ p → ∃ m' n', F m = some m' ∧ G n = some n' ∧ pSt2 B len sh lo hi N p m n [b] 0 D 0 m' n'
/-- a row of parts joined by one token -/
theorem ps_chain {B : Nat → Nat} {len sh lo hi N p D t : Nat} {b : Bool} {c : Int32} {μ ν : zz_Mem} {F G : zz_Mem → Option zz_Mem} {L : Nat → Int32 → zz_Mem → Option zz_Mem} {R : Nat → zz_Mem → Option zz_Mem} (hlw : pLw sh lo hi μ ν) (hN : N ≤ p) (hl : len ≤ 900) (ht : t < 44) (ht1 : t ≠ 31) (ht2 : t ≠ 30) (hz : pZd B len F G) (hs : pGr B len sh lo hi b D F G) (hx : ∀ bb s rest, pe_wf lo hi bb rest ([b] ++ s) → pe_wf lo hi bb (c :: rest) ([b, b] ++ s))
    (hL : ∀ fuel k p1 m n, pOK B len p1 m n → L (fuel + 1) (nI k) m = if (900 : Int32) ≤ nI k then some m else if pkK B len p1 = t then (zz_bndR (f_X7_next m) fun m1 => zz_bndR (F m1) fun m2 => zz_bndR (f_X3_add (pe_cm sh c) m2) fun m3 => L fuel (nI (k + 1)) m3) else some m)
    (hL0 : ∀ fuel k w p1 m, pSto B len w p1 m → L (fuel + 1) (nI k) m = some m)
    (hR : ∀ fuel n, R (fuel + 1) n = zz_bnd (f_X12_eats (nI t) n) fun r1 m2 => if r1 = 0 then some m2 else zz_bndR (G m2) fun m3 => zz_bndR (f_X12_codes c m3) fun m4 => R fuel m4) :
    ∀ (r k fuel fuel' : Nat) (μ1 ν1 : zz_Mem), k + r = 900 → r < fuel → r < fuel' → pSt2 B len sh lo hi N p μ ν [b] 0 (D + 1) k μ1 ν1 → ∃ μ2 ν2, L fuel (nI k) μ1 = some μ2 ∧ R fuel' ν1 = some ν2 ∧ pSt2 B len sh lo hi N p μ ν [b] 0 (D + 1) 0 μ2 ν2 := by
  have l900 : (900 : Int32) = nI 900 := rfl
  -- the end of the row
  have fin : ∀ (k fu fu' : Nat) (μ1 ν1 : zz_Mem), pSt2 B len sh lo hi N p μ ν [b] 0 (D + 1) k μ1 ν1 → (∀ p1, pOK B len p1 μ1 ν1 → L (fu + 1) (nI k) μ1 = some μ1 ∧ pkK B len p1 ≠ t) → ∃ μ2 ν2, L (fu + 1) (nI k) μ1 = some μ2 ∧ R (fu' + 1) ν1 = some ν2 ∧ pSt2 B len sh lo hi N p μ ν [b] 0 (D + 1) 0 μ2 ν2 := by
    intro k fu fu' μ1 ν1 h ho
    have h' := ps_less h (Nat.le_refl 0) (Nat.le_refl _) (Nat.zero_le k)
    refine ⟨μ1, ν1, ?_, ?_, h'⟩
    · obtain ⟨hc, hr, h⟩ := h
      rcases h with ⟨p1, C, q0, q1, q2, q3, q4⟩ | ⟨p1, k', q1, q2, q3, q4⟩ | q
      · exact (ho p1 q2).1
      · exact hL0 fu k 1 p1 μ1 q2.1
      · obtain ⟨⟨w, p1, f⟩, n⟩ := q
        exact hL0 fu k w p1 μ1 f.1
    · obtain ⟨hc, hr, h⟩ := h
      rw [hR]
      rcases h with ⟨p1, C, q0, q1, q2, q3, q4⟩ | ⟨p1, k', q1, q2, q3, q4⟩ | q
      · unfold f_X12_eats
        rw [pr_isO q2 ht, decide_eq_false (ho p1 q2).2, pq_bndS, if_pos (show pd_b false = 0 from rfl), pq_bnd2, if_pos rfl]
      · unfold f_X12_eats
        rw [pr_isB q2 ht ht1, pq_bndS, if_pos rfl, pq_bnd2, if_pos rfl]
      · obtain ⟨⟨w, p1, f⟩, n⟩ := q
        have hx' : pFx ν1 := by unfold pFx; rw [f.2.1]; exact pr_n0 f.1.2.2.2.1
        rw [fx_eats hx', pq_bnd2, if_pos rfl]
  intro r
  induction r with
  | zero =>
    intro k fuel fuel' μ1 ν1 h1 h2 h3 h
    obtain ⟨fu, rfl⟩ : ∃ n, fuel = n + 1 := ⟨fuel - 1, by omega⟩
    obtain ⟨fu', rfl⟩ : ∃ n, fuel' = n + 1 := ⟨fuel' - 1, by omega⟩
    refine fin k fu fu' μ1 ν1 h (fun p1 o => ⟨?_, ?_⟩)
    · rw [hL fu k p1 μ1 ν1 o, l900, if_pos (nI_le (by omega) (by omega))]
    · have k4 := (pkE_b (B := B) o.2.2.1 (fun j hj => (o.1.2.1 j hj).1)).2.2.2.1
      have hp1 := o.2.2.1
      have hlp : len ≤ p1 := by
        obtain ⟨hc, hr, h⟩ := h
        rcases h with ⟨p2, C, q0, q1, q2, q3, q4⟩ | ⟨p2, k', q1, q2, q3, q4⟩ | q
        · have e1 := q2.2.2.2.2.2.2.1
          have e2 := o.2.2.2.2.2.2.1
          rw [e1, nI_eq (by have := q2.2.2.1; omega) (by omega)] at e2
          omega
        · have e1 := q2.1.2.2.2.2.1
          rw [o.2.2.2.2.2.2.2.1] at e1
          exact absurd e1.symm (pr_n0 (by omega))
        · obtain ⟨⟨w, p2, f⟩, n⟩ := q
          have e1 := f.1.2.2.2.2.1
          rw [o.2.2.2.2.2.2.2.1] at e1
          exact absurd e1.symm (pr_n0 f.1.2.2.2.1)
      rw [k4.mpr hlp]
      exact fun z => ht2 z.symm
  | succ r ih =>
    intro k fuel fuel' μ1 ν1 h1 h2 h3 h
    obtain ⟨fu, rfl⟩ : ∃ n, fuel = n + 1 := ⟨fuel - 1, by omega⟩
    obtain ⟨fu', rfl⟩ : ∃ n, fuel' = n + 1 := ⟨fuel' - 1, by omega⟩
    by_cases cc : ∃ p1, pOK B len p1 μ1 ν1 ∧ pkK B len p1 = t
    · obtain ⟨p1', o', ct'⟩ := cc
      obtain ⟨hc, hr, hh⟩ := id h
      rcases hh with ⟨p1, C, q0, q1, q2, q3, q4⟩ | ⟨p2, k', q1, q2, q3, q4⟩ | q
      · have ct : pkK B len p1 = t := by
          have e1 := q2.2.2.2.2.2.2.2.2.2.2.1
          have e2 := o'.2.2.2.2.2.2.2.2.2.2.1
          have k5 := (pkE_b (B := B) q2.2.2.1 (fun j hj => (q2.1.2.1 j hj).1)).2.2.2.2
          rw [e1, ct', nI_eq (by omega) (by omega)] at e2
          exact e2
        obtain ⟨μ2, ν2, y1, y2, y3⟩ := ps_next hc hr q0 q1 q2 q3 q4 (by omega)
        obtain ⟨μ3, ν3, z1, z2, z3⟩ := ps_sub (b := b) (D2 := D) (D3 := D + 1) hN hl hz (fun N' p' m n ec er o a1 a2 a3 => hs N' p' m n (pLw_E hlw ec er) o a1 a2 a3) y3 (Nat.le_refl _) (by simp; omega)
        obtain ⟨μ4, ν4, w1, w2, w3⟩ := ps_code (T' := [b]) hN hl hx z3
        obtain ⟨μ5, ν5, v1, v2, v3⟩ := ih (k + 1) fu fu' μ4 ν4 (by omega) (by omega) (by omega) w3
        refine ⟨μ5, ν5, ?_, ?_, v3⟩
        · rw [hL fu k p1 μ1 ν1 q2, l900, if_neg (nI_ge (by omega) (by omega)), if_pos ct, y1, pq_bndS, z1, pq_bndS, w1, pq_bndS, v1]
        · rw [hR]
          unfold f_X12_eats
          rw [pr_isO q2 ht, decide_eq_true ct, pq_bndS, if_neg (show ¬ pd_b true = 0 by decide), y2, pq_bndS, pq_bnd2, if_neg (by decide), z2, pq_bndS, w2, pq_bndS, v2]
      · have e1 := q2.1.2.2.2.2.1
        rw [o'.2.2.2.2.2.2.2.1] at e1
        exact absurd e1.symm (pr_n0 (by omega))
      · obtain ⟨⟨w, p2, f⟩, n⟩ := q
        have e1 := f.1.2.2.2.2.1
        rw [o'.2.2.2.2.2.2.2.1] at e1
        exact absurd e1.symm (pr_n0 f.1.2.2.2.1)
    · refine fin k fu fu' μ1 ν1 h (fun p1 o => ⟨?_, fun z => cc ⟨p1, o, z⟩⟩)
      rw [hL fu k p1 μ1 ν1 o, l900, if_neg (nI_ge (by omega) (by omega)), if_neg (fun z => cc ⟨p1, o, z⟩)]
