/-! ===== 99c: what nests ===== -/
theorem pTk_3 : ∀ t, t < 44 → t ≠ 31 → pTk t ≠ 3 ∧ pTk t < 256 := by decide +kernel
theorem po_n3 {B : Nat → Nat} {len p1 : Nat} {m n : zz_Mem} (h : pOK B len p1 m n) : ¬ m.1 30 4 = 3 := by
  obtain ⟨h1, h2, hp, h31, h3, h4, -⟩ := h
  have k5 := (pkE_b (B := B) hp (fun j hj => (h1.2.1 j hj).1)).2.2.2.2
  obtain ⟨a, b⟩ := pTk_3 _ k5 h31
  have l3 : (3 : Int32) = nI 3 := rfl
  rw [h4, l3, nI_eq (by omega) (by omega)]
  exact a
/-- a token that nests: one deeper, or a fault -/
theorem ps_nest {B : Nat → Nat} {len sh lo hi N p p1 e D D' dd : Nat} {T T' : List Bool} {C : List Int32} {μ ν μ1 ν1 : zz_Mem} {KC KR : zz_Mem → Option zz_Mem} (hd : dd ≤ 6) (hN : N ≤ p) (hl : len ≤ 900) (hc : pEc μ μ1) (hr : pEr ν ν1) (hp : p + C.length + e ≤ p1) (ho : pOK B len p1 μ1 ν1) (hx : pEx lo hi T D C) (ha : pAp sh N C μ ν μ1 ν1) (ht : pkK B len p1 ≠ 30)
    (hK : dd < 6 → ∀ μ2 ν2, pSt2 B len sh lo hi N p μ ν T (e + 1) D 0 μ2 ν2 → ∃ μ3 ν3, KC μ2 = some μ3 ∧ KR ν2 = some ν3 ∧ pSt2 B len sh lo hi N p μ ν T' 0 D' 0 μ3 ν3)
    (hB : dd < 6 → ∀ p' m n n1, pBad B len p' m n → f_X12_fails 2 n = some n1 → pFx n1 → KR n = some n1) :
    ∃ μ3 ν3, (zz_bndR (f_X7_goDeeper (nI dd) μ1) fun m => if m.1 30 4 = (3 : Int32) then some m else KC m) = some μ3 ∧ (zz_bnd (f_X12_goesIn (nI dd) ν1) fun r m => if r = 0 then some m else KR m) = some ν3 ∧ pSt2 B len sh lo hi N p μ ν T' 0 D' 0 μ3 ν3 := by
  have l6 : (6 : Int32) = nI 6 := rfl
  have hp1 := ho.2.2.1
  have e11 : ν1.1 0 11 = 0 := ho.2.2.2.2.2.2.2.2.2.2.2.1
  unfold f_X7_goDeeper f_X12_goesIn f_X12_goesIn_11 f_X12_goesIn_22
  by_cases c : dd = 6
  · subst c
    obtain ⟨μ2, ν2, y1, y2, y3, y4⟩ := ps_fail (T := T') (e := 0) (D := D') (k0 := 0) (p := p) (lo := lo) (hi := hi) (w := 4) hc hr (by omega) ho ha (by omega)
    have y1' : f_X7_fail 4 μ1 = some μ2 := y1
    have y2' : f_X12_fails 4 ν1 = some ν2 := y2
    obtain ⟨⟨w, p2, f⟩, n⟩ := y4
    have hx' : ¬ ν2.1 0 11 = 0 := by rw [f.2.1]; exact pr_n0 f.1.2.2.2.1
    refine ⟨μ2, ν2, ?_, ?_, y3⟩
    · rw [if_neg (show ¬ nI 6 < 6 by decide), y1', pq_bndS, pq_bndS, if_pos f.1.2.2.1]
    · rw [if_pos (show nI 6 = 6 from rfl), y2', pq_bndS, if_neg hx', if_neg hx', pq_bnd2, if_pos rfl]
  · obtain ⟨μ2, ν2, y1, y2, y3⟩ := ps_next (k0 := 0) hc hr (Nat.zero_le _) hp ho hx ha ht
    have eR : (zz_bnd (if nI dd = (6 : Int32) then zz_bndR (f_X12_fails 4 ν1) fun m1 => (if m1.1 0 11 = 0 then zz_bndR (f_X12_next m1) fun m1 => (if m1.1 0 11 = 0 then some ((1 : Int32), m1) else some ((0 : Int32), m1)) else (if m1.1 0 11 = 0 then some ((1 : Int32), m1) else some ((0 : Int32), m1))) else (if ν1.1 0 11 = 0 then zz_bndR (f_X12_next ν1) fun m1 => (if m1.1 0 11 = 0 then some ((1 : Int32), m1) else some ((0 : Int32), m1)) else (if ν1.1 0 11 = 0 then some ((1 : Int32), ν1) else some ((0 : Int32), ν1)))) fun r m => if r = 0 then some m else KR m) = if ν2.1 0 11 = 0 then KR ν2 else some ν2 := by
      rw [if_neg (by rw [l6, nI_eq (by omega) (by omega)]; exact c), if_pos e11, y2, pq_bndS]
      by_cases z : ν2.1 0 11 = 0
      · rw [if_pos z, if_pos z, pq_bnd2, if_neg (by decide)]
      · rw [if_neg z, if_neg z, pq_bnd2, if_pos rfl]
    have eC : (zz_bndR (if nI dd < (6 : Int32) then zz_bndR (f_X7_next μ1) fun m1 => some m1 else zz_bndR (f_X7_fail 4 μ1) fun m2 => some m2) fun m => if m.1 30 4 = (3 : Int32) then some m else KC m) = if μ2.1 30 4 = (3 : Int32) then some μ2 else KC μ2 := by
      rw [l6, if_pos (nI_lt (by omega) (by omega)), y1, pq_bndS, pq_bndS]
    obtain ⟨kc, kr, ks⟩ := id y3
    rcases ks with ⟨p2, C2, q0, q1, q2, q3, q4⟩ | ⟨p2, k, q1, q2, q3, q4⟩ | q
    · obtain ⟨μ3, ν3, z1, z2, z3⟩ := hK (by omega) μ2 ν2 y3
      refine ⟨μ3, ν3, eC.trans ?_, eR.trans ?_, z3⟩
      · rw [if_neg (po_n3 q2), z1]
      · rw [if_pos q2.2.2.2.2.2.2.2.2.2.2.2.1, z2]
    · obtain ⟨ν3, z1, z2, z3, z4⟩ := pr_failB 2 q2
      have z1' : f_X12_fails 2 ν2 = some ν3 := z1
      have hp2 := q2.2.2.1
      refine ⟨μ2, ν3, eC.trans (by rw [if_pos q2.1.2.2.1]), eR.trans (by rw [if_pos q2.2.2.2.2.2]; exact hB (by omega) p2 μ2 ν2 ν3 q2 z1' (by unfold pFx; rw [z3]; exact pr_n0 (by omega))), kc, pErT kr (pEr_Z z2), Or.inr (Or.inr ⟨⟨1, p2, q2.1, z3, z4⟩, N + k, by omega, q3⟩)⟩
    · obtain ⟨⟨w, p2, f⟩, n⟩ := q
      refine ⟨μ2, ν2, eC.trans (by rw [if_pos f.1.2.2.1]), eR.trans (by rw [if_neg (by rw [f.2.1]; exact pr_n0 f.1.2.2.2.1)]), kc, kr, Or.inr (Or.inr ⟨⟨w, p2, f⟩, n⟩)⟩
