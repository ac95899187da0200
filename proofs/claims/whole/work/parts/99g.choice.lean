/-! ===== 99g: choices ===== -/
def pRi (g' : Nat → Int32 → zz_Mem → Option zz_Mem) (d : Int32) (m2 : zz_Mem) : Option zz_Mem := zz_bndR (g' 4 (d + (1 : Int32)) m2) fun m3 => zz_bnd (f_X12_eats (16 : Int32) m3) fun r4 m5 => if r4 = 0 then (zz_bndR (f_X12_fails (2 : Int32) m5) fun m6 => f_X12_readIf_30 g' d m6) else f_X12_readIf_30 g' d m5
theorem ps_choice {B : Nat → Nat} {len sh lo hi D Ds Dt dd N p : Nat} {g g' : Nat → Int32 → zz_Mem → Option zz_Mem} {m n : zz_Mem} (hlw : pLw sh lo hi m n) (hN : N ≤ p) (hl : len ≤ 900) (hzT : pZd B len (g 4 (nI (dd + 1))) (g' 4 (nI (dd + 1)))) (hT : pGr B len sh lo hi true Dt (g 4 (nI (dd + 1))) (g' 4 (nI (dd + 1)))) (hzS : pZd B len (g 0 (nI (dd + 1))) (g' 0 (nI (dd + 1)))) (hS : pGr B len sh lo hi false Ds (g 0 (nI (dd + 1))) (g' 0 (nI (dd + 1)))) (d1 : Dt ≤ D) (d2 : Ds + 2 ≤ D) {μ2 ν2 : zz_Mem} (st : pSt2 B len sh lo hi N p m n [] 1 0 0 μ2 ν2) : ∃ μ3 ν3, f_X7_readChoice g (nI (dd + 1)) μ2 = some μ3 ∧ pRi g' (nI dd) ν2 = some ν3 ∧ pSt2 B len sh lo hi N p m n [false] 0 D 0 μ3 ν3 := by
  obtain ⟨μa, νa, a1, a2, a3⟩ := ps_sub (b := true) (D2 := Dt) (D3 := D) hN hl hzT (fun N' p' m' n' ec er o b1 b2 b3 => hT N' p' m' n' (pLw_E hlw ec er) o b1 b2 b3) st (by omega) (by simpa using d1)
  obtain ⟨μb, νb, b1, b2, b3⟩ := ps_expect (t := 16) (F := f_X7_takeWord 19) hN hl (by omega) (by omega) (by omega) (po_takeWord (by omega) (by omega)) (fun w p m h => sc_takeWord h 19) a3
  obtain ⟨μc, νc, c1, c2, c3⟩ := ps_sub (b := false) (D2 := Ds) (D3 := D) hN hl hzS (fun N' p' m' n' ec er o b1 b2 b3 => hS N' p' m' n' (pLw_E hlw ec er) o b1 b2 b3) b3 (Nat.le_refl _) (by simp; omega)
  obtain ⟨μd, νd, e1, e2, e3⟩ := ps_expect (t := 17) (F := f_X7_takeWord 20) hN hl (by omega) (by omega) (by omega) (po_takeWord (by omega) (by omega)) (fun w p m h => sc_takeWord h 20) c3
  obtain ⟨μe, νe, f1, f2, f3⟩ := ps_sub (b := false) (D2 := Ds) (D3 := D) hN hl hzS (fun N' p' m' n' ec er o b1 b2 b3 => hS N' p' m' n' (pLw_E hlw ec er) o b1 b2 b3) e3 (Nat.le_refl _) (by simp; omega)
  obtain ⟨μf, νf, h1, h2, h3⟩ := ps_expect (t := 18) (F := f_X7_takeWord 21) hN hl (by omega) (by omega) (by omega) (po_takeWord (by omega) (by omega)) (fun w p m h => sc_takeWord h 21) f3
  obtain ⟨μg, νg, i1, i2, i3⟩ := ps_code (T' := [false]) (c := 3009) hN hl wf_if h3
  have i1' : f_X3_add 2009 μf = some μg := i1
  refine ⟨μg, νg, ?_, ?_, ps_less i3 (Nat.le_refl _) (Nat.le_refl _) (Nat.zero_le _)⟩
  · unfold f_X7_readChoice
    rw [a1, pq_bndS, b1, pq_bndS, c1, pq_bndS, e1, pq_bndS, f1, pq_bndS, h1, pq_bndS, i1', pq_bndS]
  · unfold pRi
    rw [nI_1, a2, pq_bndS]
    refine (b2 (fun z => f_X12_readIf_30 g' (nI dd) z)).trans ?_
    show f_X12_readIf_30 g' (nI dd) νb = _
    unfold f_X12_readIf_30
    rw [nI_1, c2, pq_bndS]
    refine (e2 (fun z => f_X12_readIf_51 g' (nI dd) z)).trans ?_
    show f_X12_readIf_51 g' (nI dd) νd = _
    unfold f_X12_readIf_51
    rw [nI_1, f2, pq_bndS]
    refine (h2 (fun z => f_X12_readIf_72 g' z)).trans ?_
    show f_X12_readIf_72 g' νf = _
    unfold f_X12_readIf_72
    rw [i2, pq_bndS]
