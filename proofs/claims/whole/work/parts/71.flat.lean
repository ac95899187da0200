/-! ===== 71: made flat, what is left ===== -/
/-- how a piece of an input hangs on a pillar -/
def pDs (a : Nat → Int32) (c : Nat → Nat) (i k : Nat) : Nat → Int
  | 0 => 0
  | p + 1 => pDs a c i k p + (c i : Int) * pf_len a i p * (pWt a k (pP a i p) : Int)
def pPc (a : Nat → Int32) (c : Nat → Nat) (i k : Nat) : Int :=
  if pK a i = 2 then 3600000 * (pWt a k (pE a i) : Int) + pDs a c i k (pM a i)
  else if pK a i = 1 then (3600000 + (c i : Int) * ((pE a i : Int) - (pS a i : Int))) * (pWt a k (pE a i) : Int) - 3600000 * (pWt a k (pS a i) : Int)
  else (3600000 + (c i : Int) * ((pE a i : Int) - (pS a i : Int))) * (pWt a k (pE a i) : Int)
theorem pc_piece {a st : Nat → Int32} (hv : pv_D a) {m : zz_Mem} {c : Nat → Nat} (hc : ∀ i, i < pN a → c i ≤ 999) (h : pI_c m a st) (hw : pc_cw m 83 a c) {i k : Nat} (hi : i < pN a) (hk : k ≤ pL a) : f_X2_pieceHang m (nI i) (nI k) = some (lI (pPc a c i k)) := by
  have h8 := (pN_b hv).1
  have hfu : zz_fuel = 5000 := rfl
  have hin := pv_inD hv hi
  have h34 := pM_b hin
  have eb := pE_b hin
  have sb := pS_b hin
  have cb := hc i hi
  have hs := h.2.2.2.1
  have we := pWt_b a hv k (pE a i)
  have ws := pWt_b a hv k (pS a i)
  have lB : (3600000 : Int64) = lI 3600000 := rfl
  have l2 : (2 : Int32) = nI 2 := rfl
  have l1 : (1 : Int32) = nI 1 := rfl
  have e4 : m.1 4 i = nI (pK a i) := (h.1.2.2.2.2.2.2.2.1 i hi).1.trans hin.1.1
  have e84 : m.1 84 i = nI (c i) := (hw.1 i hi).1
  have b24 : pK a i ≤ 2 := hin.1.2
  unfold f_X2_pieceHang pPc
  rw [pq_ixE (by omega) (by decide), nI_clamp (by omega), (hs.1 i hi).2.1, pc_wt hv h.1 hs hk (by omega), pq_bndS, qx_nl (by omega), lB, lI_mul, pq_letJ, pq_ixE (by omega) (by decide), e4]
  by_cases k2 : pK a i = 2
  · have loop : ∀ (r p fuel : Nat), p + r = pM a i → r < fuel → f_X2_dueHang_5 m fuel (nI i) (nI k) (lI (pDs a c i k p)) (nI p) = some (lI (pDs a c i k (pM a i))) := by
      intro r
      induction r with
      | zero =>
        intro p fuel h1 h2
        obtain ⟨fu, rfl⟩ : ∃ n, fuel = n + 1 := ⟨fuel - 1, by omega⟩
        have e : p = pM a i := by omega
        subst e
        rw [f_X2_dueHang_5, pq_ixE (by omega) (by decide), nI_clamp (by omega), (hs.1 i hi).2.2.1, if_pos (Int32.le_refl _)]
      | succ r ih =>
        intro p fuel h1 h2
        obtain ⟨fu, rfl⟩ : ∃ n, fuel = n + 1 := ⟨fuel - 1, by omega⟩
        have hpm : p < pM a i := by omega
        have hl := pf_lenR hv hi hpm
        have hP := pP_b hin k2 (k := p) (by have := pM_Q hpm; omega)
        have wp := pWt_b a hv k (pP a i p)
        rw [f_X2_dueHang_5, pq_ixE (by omega) (by decide), nI_clamp (by omega), (hs.1 i hi).2.2.1, if_neg (nI_ge (by omega) (by omega)), pq_ixE (by omega) (by decide), pc_plen hv hs hi hpm, pq_bndS, e84, qx_nl (by omega), iI_l (by omega) (by omega), lI_mul, pq_letJ, pc_pend hv hs hi hpm, pq_bndS, pc_wt hv h.1 hs hk (by omega), pq_bndS, qx_nl (by omega), lI_mul, lI_add, pq_letJ, pq_letI, nI_1]
        exact ih (p + 1) fu (by omega) (by omega)
    have h0 := loop (pM a i) 0 zz_fuel (by omega) (by omega)
    rw [nI_0] at h0
    have h0' : f_X2_dueHang m (nI i) (nI k) = some (lI (pDs a c i k (pM a i))) := h0
    rw [if_pos (by rw [k2]; rfl), if_pos k2, h0', pq_bndS, lI_add]
  · have ed : f_X8_daysOf m (nI i) = some (iI ((pE a i : Int) - (pS a i : Int))) := by
      unfold f_X8_daysOf
      rw [pq_ixE (by omega) (by decide), pq_ixE (by omega) (by decide), nI_clamp (by omega), (hs.1 i hi).1, (hs.1 i hi).2.1, iI_nI, iI_nI, iI_sub]
    rw [if_neg (by rw [l2, nI_eq (by omega) (by decide)]; exact k2), if_neg k2, pq_ixE (by omega) (by decide), ed, pq_bndS, pq_ixE (by omega) (by decide), pq_bndS, e84, qx_nl (by omega), iI_l (by omega) (by omega), lI_mul, qx_nl (by omega), lI_mul, pq_letJ, pq_ixE (by omega) (by decide)]
    have ea : 3600000 * (pWt a k (pE a i) : Int) + (c i : Int) * ((pE a i : Int) - (pS a i : Int)) * (pWt a k (pE a i) : Int) = (3600000 + (c i : Int) * ((pE a i : Int) - (pS a i : Int))) * (pWt a k (pE a i) : Int) := by rw [Int.add_mul]
    by_cases k1 : pK a i = 1
    · rw [if_pos (by rw [k1]; rfl), if_pos k1, pq_ixE (by omega) (by decide), (hs.1 i hi).1, pc_wt hv h.1 hs hk (by omega), pq_bndS, qx_nl (by omega), lI_mul, lI_add, lI_sub, ea]
    · rw [if_neg (by rw [l1, nI_eq (by omega) (by decide)]; exact k1), if_neg k1, lI_add, ea]
theorem pr_piece {a : Nat → Int32} (hv : pv_D a) {m0 m : zz_Mem} {c : Nat → Nat} (hc : ∀ i, i < pN a → c i ≤ 999) (hr : pI_r m a) (h : pr_cw m0 m a c) {i k : Nat} (hi : i < pN a) (hk : k ≤ pL a) : f_X12_pieceOn m (nI i) (nI k) = some (lI (pPc a c i k)) := by
  have h8 := (pN_b hv).1
  have hfu : zz_fuel = 5000 := rfl
  have hin := pv_inD hv hi
  have h34 := pM_b hin
  have eb := pE_b hin
  have sb := pS_b hin
  have cb := hc i hi
  have hs := hr.2
  have we := pWt_b a hv k (pE a i)
  have ws := pWt_b a hv k (pS a i)
  have lB : (3600000 : Int64) = lI 3600000 := rfl
  have l2 : (2 : Int32) = nI 2 := rfl
  have l1 : (1 : Int32) = nI 1 := rfl
  have l24 : (24 : Int32) = nI 24 := rfl
  have e24 : m.1 1 (24 + i) = nI (pK a i) := (hr.1 _ (by omega)).trans hin.1.1
  have e12 : m.1 12 i = nI (c i) := (h.2.2.2.1 i hi).1
  have b24 : pK a i ≤ 2 := hin.1.2
  have hdue : ∀ x : Int32, f_X12_dueOf m (nI i) x = some (lI (c i : Int) * x.toInt64) := fun x => by
    unfold f_X12_dueOf
    rw [pq_ixE (by omega) (by decide), nI_clamp (by omega), e12, qx_nl (by omega)]
  unfold f_X12_pieceOn pPc
  rw [l24, nI_add, pq_ixE (by omega) (by decide), nI_clamp (by omega), e24]
  by_cases k2 : pK a i = 2
  · have loop : ∀ (r p fuel : Nat), p + r = pM a i → r < fuel → f_X12_pieceOn_33 m fuel (nI i) (nI k) (lI (3600000 * (pWt a k (pE a i) : Int) + pDs a c i k p)) (nI p) = some (lI (3600000 * (pWt a k (pE a i) : Int) + pDs a c i k (pM a i))) := by
      intro r
      induction r with
      | zero =>
        intro p fuel h1 h2
        obtain ⟨fu, rfl⟩ : ∃ n, fuel = n + 1 := ⟨fuel - 1, by omega⟩
        have e : p = pM a i := by omega
        subst e
        rw [f_X12_pieceOn_33, pq_ixE (by omega) (by decide), nI_clamp (by omega), (hs.1 i hi).2.2.1, if_pos (Int32.le_refl _)]
      | succ r ih =>
        intro p fuel h1 h2
        obtain ⟨fu, rfl⟩ : ∃ n, fuel = n + 1 := ⟨fuel - 1, by omega⟩
        have hpm : p < pM a i := by omega
        have hl := pf_lenR hv hi hpm
        have hP := pP_b hin k2 (k := p) (by have := pM_Q hpm; omega)
        have wp := pWt_b a hv k (pP a i p)
        rw [f_X12_pieceOn_33, pq_ixE (by omega) (by decide), nI_clamp (by omega), (hs.1 i hi).2.2.1, if_neg (nI_ge (by omega) (by omega)), pr_len hv hs hi hpm, pq_bndS, hdue, pq_bndS, pr_end hv hs hi hpm, pq_bndS, pr_wt hv hr h hk (by omega), pq_bndS, iI_l (by omega) (by omega), qx_nl (by omega), lI_mul, lI_mul, lI_add, pq_letJ, pq_letI, nI_1, Int.add_assoc]
        exact ih (p + 1) fu (by omega) (by omega)
    have h0 := loop (pM a i) 0 zz_fuel (by omega) (by omega)
    have z0 : 3600000 * (pWt a k (pE a i) : Int) + pDs a c i k 0 = 3600000 * (pWt a k (pE a i) : Int) := by rw [pDs, Int.add_zero]
    rw [nI_0, z0] at h0
    rw [if_pos (by rw [k2]; rfl), if_pos k2, pq_ixE (by omega) (by decide), nI_clamp (by omega), (hs.1 i hi).2.1, pr_wt hv hr h hk (by omega), pq_bndS, qx_nl (by omega), lB, lI_mul, pq_letJ, h0]
  · rw [if_neg (by rw [l2, nI_eq (by omega) (by decide)]; exact k2), if_neg k2, pq_ixE (by omega) (by decide), pq_ixE (by omega) (by decide), nI_clamp (by omega), (hs.1 i hi).1, (hs.1 i hi).2.1, hdue, pq_bndS, qx_sl (by omega) (by omega), lI_mul, pq_ixE (by omega) (by decide), pr_wt hv hr h hk (by omega), pq_bndS, lB, lI_add, qx_nl (by omega), lI_mul, pq_letJ, pq_ixE (by omega) (by decide)]
    by_cases k1 : pK a i = 1
    · rw [if_pos (by rw [k1]; rfl), if_pos k1, pq_ixE (by omega) (by decide), pr_wt hv hr h hk (by omega), pq_bndS, qx_nl (by omega), lI_mul, lI_sub]
    · rw [if_neg (by rw [l1, nI_eq (by omega) (by decide)]; exact k1), if_neg k1]
theorem pDs_b {a : Nat → Int32} (hv : pv_D a) {c : Nat → Nat} {i k : Nat} : ∀ p, 0 ≤ pDs a c i k p ∧ pDs a c i k p ≤ (c i : Int) * pf_prev a i p * 1000 := by
  intro p
  induction p with
  | zero => exact ⟨Int.le_refl _, by unfold pf_prev; simp [pDs]⟩
  | succ p ih =>
    rw [pDs, pf_prevS]
    have wp := pWt_b a hv k (pP a i p)
    have h1 : 0 ≤ (c i : Int) * pf_len a i p := Int.mul_nonneg (by omega) (pf_lenB i p)
    have h2 : 0 ≤ (c i : Int) * pf_len a i p * (pWt a k (pP a i p) : Int) := Int.mul_nonneg h1 (by omega)
    have h3 : (c i : Int) * pf_len a i p * (pWt a k (pP a i p) : Int) ≤ (c i : Int) * pf_len a i p * 1000 := Int.mul_le_mul_of_nonneg_left (by omega) h1
    have e : (c i : Int) * (pf_prev a i p + pf_len a i p) * 1000 = (c i : Int) * pf_prev a i p * 1000 + (c i : Int) * pf_len a i p * 1000 := by rw [Int.mul_add, Int.add_mul]
    rw [e]
    omega
/-- a piece hangs on its own pillar by more than 0 -/
theorem pPc_pos {a : Nat → Int32} (hv : pv_D a) {c : Nat → Nat} (hc : ∀ i, i < pN a → c i ≤ 999) {k : Nat} (h0 : 1 ≤ k) (hk : k ≤ pL a) : 1 ≤ pPc a c (pInp a k) k ∧ pPc a c (pInp a k) k ≤ 10000000000 := by
  obtain ⟨b1, b2, b3⟩ := pInp_b (a := a) h0 hk
  have hin := pv_inD hv b1
  have eb := pE_b hin
  have cb := hc _ b1
  have hD := pD_D hv
  have hmono := pa_mono hD.2.2.2
  have hAtE : pa_at (pDay a) (pE a (pInp a k)) (pL a) = k := by
    rw [pa_atT (pL a) hk (fun j g1 g2 => by rw [← b3]; exact hmono k j g1 g2)]
    obtain ⟨n, rfl⟩ : ∃ n, k = n + 1 := ⟨k - 1, by omega⟩
    rw [pa_at, if_pos (by omega)]
  have hwE : pWt a k (pE a (pInp a k)) = 1000 := by
    unfold pWt
    rw [hAtE]
    by_cases c1 : k = pL a ∨ pCv a = true
    · rw [if_pos c1, if_pos rfl]
    · rw [if_neg c1, if_neg (by omega), if_pos rfl, ← b3, Nat.sub_self, Nat.zero_mul, Nat.zero_div]
  have hgap : 0 ≤ (pE a (pInp a k) : Int) - (pS a (pInp a k) : Int) ∧ (pE a (pInp a k) : Int) - (pS a (pInp a k) : Int) ≤ 1029 := by omega
  have hd := pf_c999 (x := (c (pInp a k) : Int)) (y := (pE a (pInp a k) : Int) - (pS a (pInp a k) : Int)) (by omega) (by omega) hgap.1 hgap.2
  unfold pPc
  rw [hwE]
  by_cases k2 : pK a (pInp a k) = 2
  · rw [if_pos k2]
    have hb := pDs_b hv (c := c) (i := pInp a k) (k := k) (pM a (pInp a k))
    have hpr := pf_prevB hv b1 (Nat.le_refl (pM a (pInp a k)))
    have hd2 := pf_c999 (x := (c (pInp a k) : Int)) (y := pf_prev a (pInp a k) (pM a (pInp a k))) (by omega) (by omega) hpr.1 hpr.2
    omega
  · rw [if_neg k2]
    by_cases k1 : pK a (pInp a k) = 1
    · rw [if_pos k1]
      have hws : pWt a k (pS a (pInp a k)) ≤ 999 := by
        obtain ⟨c1, c2⟩ := pa_atC (pDay a) (pS a (pInp a k)) hD.1 (pL a)
        have c0 := pa_atL (pDay a) (pS a (pInp a k)) (pL a)
        have hne : pa_at (pDay a) (pS a (pInp a k)) (pL a) < k := by
          by_cases z : pa_at (pDay a) (pS a (pInp a k)) (pL a) < k
          · exact z
          · exfalso
            by_cases z2 : k = pa_at (pDay a) (pS a (pInp a k)) (pL a)
            · rw [← z2] at c1; omega
            · have := hmono k _ (by omega) c0; omega
        unfold pWt
        generalize pa_at (pDay a) (pS a (pInp a k)) (pL a) = t at *
        have := pWt_l c1 (c2 (t + 1) (by omega) (by omega))
        split
        · rw [if_neg (by omega)]; omega
        · split
          · omega
          · rw [if_neg (by omega)]; omega
      omega
    · rw [if_neg k1]; omega
/-- the flattening, step by step: what hangs, what is taken -/
def pf_add (a : Nat → Int32) (c : Nat → Nat) (w : Int64) (i k : Nat) (H : Nat → Int64) : Nat → Int64 := fun n => if n ≤ k then H n + w * lI (pPc a c i n) else H n
def pf_w (a : Nat → Int32) (c : Nat → Nat) (H : Nat → Int64) (k : Nat) : Int64 := -lI ((2 * H k + lI (pPc a c (pInp a k) k)).toInt / (2 * pPc a c (pInp a k) k))
def pf_flat (a : Nat → Int32) (c : Nat → Nat) : Nat → (Nat → Int64) × (Nat → Int64) → (Nat → Int64) × (Nat → Int64)
  | 0, x => x
  | k + 1, x => pf_flat a c k (va_up x.1 (k + 1) (pf_w a c x.2 (k + 1)), pf_add a c (pf_w a c x.2 (k + 1)) (pInp a (k + 1)) (k + 1) x.2)
def pf_H0 (a st : Nat → Int32) : Nat → Int64 := fun k => pHs a st k (pF a) * 3600000 * 1000
theorem pc_cwF {L : List Nat} {m m' : zz_Mem} {o : Nat} {a : Nat → Int32} {c : Nat → Nat} (h : pc_cw m o a c) (f : pq_fr L m m') (h1 : o + 1 ∉ L) (h2 : o + 2 ∉ L) : pc_cw m' o a c := by
  refine ⟨?_, h.2.1, ?_⟩
  · unfold pc_cnt; rw [(f _ h1).1]; exact h.1
  · rw [(f _ h2).1]; exact h.2.2
theorem pr_cwS {L : List Nat} {m0 m m' : zz_Mem} {a : Nat → Int32} {c : Nat → Nat} (h : pr_cw m0 m a c) (f : pq_fr L m m') (hL : ∀ k, k ∈ L → k ≠ 0 ∧ (k < 12 ∨ 16 < k)) : pr_cw m' m' a c := by
  obtain ⟨h1, h2, h3, h4, ⟨⟨p1, p2, p3⟩, s2, s3, s4⟩, h6⟩ := h
  have n : ∀ k, (k = 0 ∨ (12 ≤ k ∧ k ≤ 16)) → k ∉ L := fun k hk z => by have := hL k z; omega
  refine ⟨pq_fr0 m', rfl, fun _ _ => rfl, ?_, ⟨⟨?_, ?_, ?_⟩, s2, ?_, ?_⟩, ?_⟩
  · unfold pr_cnt; rw [(f 12 (n _ (by omega))).1]; exact h4
  · rw [(f 0 (n _ (by omega))).1]; exact p1
  · rw [(f 13 (n _ (by omega))).1]; exact p2
  · rw [(f 14 (n _ (by omega))).1]; exact p3
  · rw [(f 15 (n _ (by omega))).1]; exact s3
  · rw [(f 15 (n _ (by omega))).1]; exact s4
  · unfold pr_made; rw [(f 16 (n _ (by omega))).1]; exact h6
theorem pI_rF {L : List Nat} {m m' : zz_Mem} {a : Nat → Int32} (h : pI_r m a) (f : pq_fr L m m') (hL : ∀ k, k ∈ L → k ≠ 1 ∧ (k < 7 ∨ 11 < k)) : pI_r m' a ∧ pr_st m' = pr_st m := by
  have n : ∀ k, (k = 1 ∨ (7 ≤ k ∧ k ≤ 11)) → k ∉ L := fun k hk z => by have := hL k z; omega
  refine ⟨⟨by rw [(f 1 (n _ (by omega))).1]; exact h.1, pr_schedF h.2 f (fun j a1 a2 => n _ (by omega))⟩, ?_⟩
  unfold pr_st; rw [(f 1 (n _ (by omega))).1]
theorem pf_own {a : Nat → Int32} (hv : pv_D a) {c : Nat → Nat} (hc : ∀ i, i < pN a → c i ≤ 999) {k : Nat} (h0 : 1 ≤ k) (hk : k ≤ pL a) : (0 : Int64) < lI (pPc a c (pInp a k) k) ∧ (2 : Int64) * lI (pPc a c (pInp a k) k) = lI (2 * pPc a c (pInp a k) k) ∧ (lI (2 * pPc a c (pInp a k) k)).toInt = 2 * pPc a c (pInp a k) k := by
  have hp := pPc_pos hv hc h0 hk
  have l0 : (0 : Int64) = lI 0 := rfl
  have l2 : (2 : Int64) = lI 2 := rfl
  refine ⟨by rw [l0]; exact lI_ltT (by omega) (by decide) (by omega), by rw [l2, lI_mul], lI_t (by omega) (by omega)⟩
theorem pc_flat {a st : Nat → Int32} (hv : pv_D a) {c : Nat → Nat} (hc : ∀ i, i < pN a → c i ≤ 999) : ∀ (k fuel : Nat) (m : zz_Mem) (T H : Nat → Int64), k ≤ pL a → k < fuel → pI_c m a st → pc_cw m 83 a c → (∀ j, k < j → j ≤ pL a → m.2.1 94 j = T j) → (∀ j, 1 ≤ j → j ≤ pL a → m.2.1 95 j = H j) →
    ∃ m', f_X2_flatten_55 fuel (nI k) m = some m' ∧ pq_fr [94, 95] m m' ∧ ∀ j, 1 ≤ j → j ≤ pL a → m'.2.1 94 j = (pf_flat a c k (T, H)).1 j ∧ m'.2.1 95 j = (pf_flat a c k (T, H)).2 j := by
  have hL8 := (pD_D hv).2.1
  have h8 := (pN_b hv).1
  have hfu : zz_fuel = 5000 := rfl
  have l1 : (1 : Int32) = nI 1 := rfl
  intro k
  induction k with
  | zero =>
    intro fuel m T H hk hf hI hw h1 h2
    obtain ⟨fu, rfl⟩ : ∃ n, fuel = n + 1 := ⟨fuel - 1, by omega⟩
    rw [f_X2_flatten_55, if_pos (show nI 0 < 1 by decide)]
    exact ⟨m, rfl, pq_fr0 m, fun j a1 a2 => ⟨h1 j (by omega) a2, h2 j a1 a2⟩⟩
  | succ k ih =>
    intro fuel m T H hk hf hI hw h1 h2
    obtain ⟨fu, rfl⟩ : ∃ n, fuel = n + 1 := ⟨fuel - 1, by omega⟩
    obtain ⟨b1, b2, b3⟩ := pInp_b (a := a) (k := k + 1) (by omega) hk
    obtain ⟨o1, o2, o3⟩ := pf_own hv hc (k := k + 1) (by omega) hk
    have hpos := pPc_pos hv hc (k := k + 1) (by omega) hk
    have e80 : m.1 80 (k + 1) = nI (pInp a (k + 1)) := hI.2.2.2.1.2.1.2.2.1 (k + 1) (by omega) hk
    have e95 : m.2.1 95 (k + 1) = H (k + 1) := h2 (k + 1) (by omega) hk
    have loop : ∀ (r n fuel : Nat) (m1 : zz_Mem), n + r = k + 2 → 1 ≤ n → r < fuel → pq_fr [94, 95] m m1 → m1.2.1 94 (k + 1) = pf_w a c H (k + 1) → (∀ j, j < n → 1 ≤ j → m1.2.1 95 j = pf_add a c (pf_w a c H (k + 1)) (pInp a (k + 1)) (k + 1) H j) → (∀ j, n ≤ j → j ≤ pL a → m1.2.1 95 j = H j) → ∃ m', f_X2_takePieces_54 fuel (nI (k + 1)) (nI (pInp a (k + 1))) (nI n) m1 = some m' ∧ pq_fr [95] m1 m' ∧ ∀ j, 1 ≤ j → j ≤ pL a → m'.2.1 95 j = pf_add a c (pf_w a c H (k + 1)) (pInp a (k + 1)) (k + 1) H j := by
      intro r
      induction r with
      | zero =>
        intro n fuel m1 g1 g2 g3 f g4 g5 g6
        obtain ⟨fu, rfl⟩ : ∃ n, fuel = n + 1 := ⟨fuel - 1, by omega⟩
        rw [f_X2_takePieces_54, if_pos (nI_lt (by omega) (by omega))]
        refine ⟨m1, rfl, pq_fr0 m1, fun j a1 a2 => ?_⟩
        by_cases cj : j < n
        · exact g5 j cj a1
        · rw [g6 j (by omega) a2]; unfold pf_add; rw [if_neg (by omega)]
      | succ r ihr =>
        intro n fuel m1 g1 g2 g3 f g4 g5 g6
        obtain ⟨fu, rfl⟩ : ∃ n, fuel = n + 1 := ⟨fuel - 1, by omega⟩
        have hI1 : pI_c m1 a st := pI_cF hI f (by simp)
        have hw1 : pc_cw m1 83 a c := pc_cwF hw f (by simp) (by simp)
        rw [f_X2_takePieces_54, if_neg (nI_nlt (by omega) (by omega)), pq_ixE (by omega) (by decide), pq_ixE (by omega) (by decide), pc_piece hv hc hI1 hw1 b1 (by omega), pq_bndS, pq_ixE (by omega) (by decide), nI_clamp (by omega), nI_clamp (by omega), g4, g6 n (Nat.le_refl _) (by omega), pq_letM, pq_letI, nI_1]
        have f' : pq_fr [95] m1 (zz_setJ m1 95 n (H n + pf_w a c H (k + 1) * lI (pPc a c (pInp a (k + 1)) n))) := pq_frJ (pq_fr0 m1) _ _ (by simp)
        obtain ⟨m', z1, z2, z3⟩ := ihr (n + 1) fu _ (by omega) (by omega) (by omega) (pq_frT f (pq_frW f' (by simp))) (by rw [pz_Jn _ _ _ (by decide)]; exact g4) (fun j a1 a2 => by
          by_cases cj : j = n
          · rw [cj, qx_jsE]; unfold pf_add; rw [if_pos (by omega)]
          · rw [qx_jsN cj]; exact g5 j (by omega) a2) (fun j a1 a2 => by rw [qx_jsN (by omega)]; exact g6 j (by omega) a2)
        exact ⟨m', z1, pq_frT f' z2, z3⟩
    have l0 : (0 : Int64) = lI 0 := rfl
    rw [f_X2_flatten_55, l1, if_neg (nI_nlt (by omega) (by omega))]
    unfold f_X2_takePieces
    rw [pq_ixE (by omega) (by decide), nI_clamp (by omega), e80, pq_letI, pc_piece hv hc hI hw b1 hk, pq_bndS, if_pos o1, pq_ixE (by omega) (by decide), e95, o2, pq_floorDiv (by rw [o3]; omega), o3, pq_bndS, pq_ixE (by omega) (by decide), pq_letM]
    have f1 : pq_fr [94, 95] m (zz_setJ m 94 (k + 1) (pf_w a c H (k + 1))) := pq_frJ (pq_fr0 m) _ _ (by simp)
    obtain ⟨m2, z1, z2, z3⟩ := loop (k + 1) 1 zz_fuel (zz_setJ m 94 (k + 1) (pf_w a c H (k + 1))) (by omega) (by omega) (by omega) f1 qx_jsE (fun j a1 a2 => by omega) (fun j a1 a2 => by rw [pz_Jn _ _ _ (by decide)]; exact h2 j (by omega) a2)
    have z1' : f_X2_takePieces_54 zz_fuel (nI (k + 1)) (nI (pInp a (k + 1))) 1 (zz_setJ m 94 (k + 1) (-lI ((2 * H (k + 1) + lI (pPc a c (pInp a (k + 1)) (k + 1))).toInt / (2 * pPc a c (pInp a (k + 1)) (k + 1))))) = some m2 := z1
    rw [z1', pq_bndS, pq_letI]
    have em : nI (k + 1) + -nI 1 = nI k := pk_m1 k
    rw [em]
    have f2 : pq_fr [94, 95] m m2 := pq_frT f1 (pq_frW z2 (by simp))
    obtain ⟨m', y1, y2, y3⟩ := ih fu m2 (va_up T (k + 1) (pf_w a c H (k + 1))) (pf_add a c (pf_w a c H (k + 1)) (pInp a (k + 1)) (k + 1) H) (by omega) (by omega) (pI_cF hI f2 (by simp)) (pc_cwF hw f2 (by simp) (by simp)) (fun j a1 a2 => by
      rw [(z2 94 (by simp)).2.1]
      by_cases cj : j = k + 1
      · rw [cj, qx_jsE, va_up, if_pos rfl]
      · rw [qx_jsN cj, va_up, if_neg cj]; exact h1 j (by omega) a2) z3
    exact ⟨m', y1, pq_frT f2 y2, y3⟩
theorem pr_flat {a : Nat → Int32} (hv : pv_D a) {c : Nat → Nat} (hc : ∀ i, i < pN a → c i ≤ 999) : ∀ (k fuel : Nat) (m0 m : zz_Mem) (T H : Nat → Int64), k ≤ pL a → k < fuel → pI_r m a → pr_cw m0 m a c → (∀ j, k < j → j ≤ pL a → m.2.1 19 j = T j) → (∀ j, 1 ≤ j → j ≤ pL a → m.2.1 20 j = H j) →
    ∃ m', f_X12_laysFlat_46 fuel (nI k) m = some m' ∧ pq_fr [19, 20] m m' ∧ ∀ j, 1 ≤ j → j ≤ pL a → m'.2.1 19 j = (pf_flat a c k (T, H)).1 j ∧ m'.2.1 20 j = (pf_flat a c k (T, H)).2 j := by
  have hL8 := (pD_D hv).2.1
  have h8 := (pN_b hv).1
  have hfu : zz_fuel = 5000 := rfl
  intro k
  induction k with
  | zero =>
    intro fuel m0 m T H hk hf hI hw h1 h2
    obtain ⟨fu, rfl⟩ : ∃ n, fuel = n + 1 := ⟨fuel - 1, by omega⟩
    rw [f_X12_laysFlat_46, if_pos (show nI 0 ≤ 0 by decide)]
    exact ⟨m, rfl, pq_fr0 m, fun j a1 a2 => ⟨h1 j (by omega) a2, h2 j a1 a2⟩⟩
  | succ k ih =>
    intro fuel m0 m T H hk hf hI hw h1 h2
    obtain ⟨fu, rfl⟩ : ∃ n, fuel = n + 1 := ⟨fuel - 1, by omega⟩
    obtain ⟨b1, b2, b3⟩ := pInp_b (a := a) (k := k + 1) (by omega) hk
    obtain ⟨o1, o2, o3⟩ := pf_own hv hc (k := k + 1) (by omega) hk
    have hpos := pPc_pos hv hc (k := k + 1) (by omega) hk
    have e15 : m.1 15 (k + 1) = nI (pInp a (k + 1)) := hw.2.2.2.2.1.2.2.1 (k + 1) (by omega) hk
    have e20 : m.2.1 20 (k + 1) = H (k + 1) := h2 (k + 1) (by omega) hk
    have loop : ∀ (r n fuel : Nat) (m1 : zz_Mem), n + r = k + 2 → r < fuel → pq_fr [19, 20] m m1 → m1.2.1 19 (k + 1) = pf_w a c H (k + 1) → (∀ j, j < n → 1 ≤ j → m1.2.1 20 j = pf_add a c (pf_w a c H (k + 1)) (pInp a (k + 1)) (k + 1) H j) → (∀ j, n ≤ j → 1 ≤ j → j ≤ pL a → m1.2.1 20 j = H j) → ∃ m', f_X12_laysFlat_92 (f_X12_laysFlat_46 fu) fuel (nI (k + 1)) (nI n) m1 = f_X12_laysFlat_46 fu (nI k) m' ∧ pq_fr [20] m1 m' ∧ ∀ j, 1 ≤ j → j ≤ pL a → m'.2.1 20 j = pf_add a c (pf_w a c H (k + 1)) (pInp a (k + 1)) (k + 1) H j := by
      intro r
      induction r with
      | zero =>
        intro n fuel m1 g1 g3 f g4 g5 g6
        obtain ⟨fu, rfl⟩ : ∃ n, fuel = n + 1 := ⟨fuel - 1, by omega⟩
        rw [f_X12_laysFlat_92, if_pos (nI_lt (by omega) (by omega)), pq_letI, pk_m1]
        refine ⟨m1, rfl, pq_fr0 m1, fun j a1 a2 => ?_⟩
        by_cases cj : j < n
        · exact g5 j cj a1
        · rw [g6 j (by omega) a1 a2]; unfold pf_add; rw [if_neg (by omega)]
      | succ r ihr =>
        intro n fuel m1 g1 g3 f g4 g5 g6
        obtain ⟨fu', rfl⟩ : ∃ n, fuel = n + 1 := ⟨fuel - 1, by omega⟩
        have hI1 : pI_r m1 a := (pI_rF hI f (by simp)).1
        have hw1 : pr_cw m1 m1 a c := pr_cwS hw f (by simp)
        rw [f_X12_laysFlat_92, if_neg (nI_nlt (by omega) (by omega)), pq_ixE (by omega) (by decide), pq_ixE (by omega) (by decide), pq_ixE (by omega) (by decide), nI_clamp (by omega), (f 15 (by simp)).1, e15, pr_piece hv hc hI1 hw1 b1 (by omega), pq_bndS, pq_ixE (by omega) (by decide), nI_clamp (by omega), g4, pq_letM, pq_letI, nI_1]
        have f' : ∀ v, pq_fr [20] m1 (zz_setJ m1 20 n v) := fun v => pq_frJ (pq_fr0 m1) _ _ (by simp)
        obtain ⟨m', z1, z2, z3⟩ := ihr (n + 1) fu' (zz_setJ m1 20 n (m1.2.1 20 n + pf_w a c H (k + 1) * lI (pPc a c (pInp a (k + 1)) n))) (by omega) (by omega) (pq_frT f (pq_frW (f' _) (by simp))) (by rw [pz_Jn _ _ _ (by decide)]; exact g4) (fun j a1 a2 => by
          by_cases cj : j = n
          · rw [cj, qx_jsE, g6 n (Nat.le_refl _) (by omega) (by omega)]; unfold pf_add; rw [if_pos (by omega)]
          · rw [qx_jsN cj]; exact g5 j (by omega) a2) (fun j a1 a0 a2 => by rw [qx_jsN (by omega)]; exact g6 j (by omega) a0 a2)
        exact ⟨m', z1, pq_frT (f' _) z2, z3⟩
    rw [f_X12_laysFlat_46, if_neg (nI_nle (by omega) (by omega)), pq_ixE (by omega) (by decide), nI_clamp (by omega), e15, pr_piece hv hc hI hw b1 hk, pq_bndS, pq_ixE (by omega) (by decide), e20, o2, pq_floorOf (by rw [o3]; omega), o3, pq_bndS, pq_ixE (by omega) (by decide), pq_letM]
    have f1 : pq_fr [19, 20] m (zz_setJ m 19 (k + 1) (pf_w a c H (k + 1))) := pq_frJ (pq_fr0 m) _ _ (by simp)
    obtain ⟨m2, z1, z2, z3⟩ := loop (k + 2) 0 zz_fuel (zz_setJ m 19 (k + 1) (pf_w a c H (k + 1))) (by omega) (by omega) f1 qx_jsE (fun j a1 a2 => by omega) (fun j a1 a0 a2 => by rw [pz_Jn _ _ _ (by decide)]; exact h2 j a0 a2)
    have z1' : f_X12_laysFlat_92 (f_X12_laysFlat_46 fu) zz_fuel (nI (k + 1)) 0 (zz_setJ m 19 (k + 1) (-lI ((2 * H (k + 1) + lI (pPc a c (pInp a (k + 1)) (k + 1))).toInt / (2 * pPc a c (pInp a (k + 1)) (k + 1))))) = f_X12_laysFlat_46 fu (nI k) m2 := z1
    rw [z1']
    have f2 : pq_fr [19, 20] m m2 := pq_frT f1 (pq_frW z2 (by simp))
    obtain ⟨m', y1, y2, y3⟩ := ih fu m2 m2 (va_up T (k + 1) (pf_w a c H (k + 1))) (pf_add a c (pf_w a c H (k + 1)) (pInp a (k + 1)) (k + 1) H) (by omega) (by omega) (pI_rF hI f2 (by simp)).1 (pr_cwS hw f2 (by simp)) (fun j a1 a2 => by
      rw [(z2 19 (by simp)).2.1]
      by_cases cj : j = k + 1
      · rw [cj, qx_jsE, va_up, if_pos rfl]
      · rw [qx_jsN cj, va_up, if_neg cj]; exact h1 j (by omega) a2) z3
    exact ⟨m', y1, pq_frT f2 y2, y3⟩
theorem pc_flatten {a st : Nat → Int32} (hv : pv_D a) {m : zz_Mem} (hI : pI_c m a st) (hw : pc_cw m 83 a (pCn a st)) : ∃ m', f_X2_flatten m = some m' ∧ pq_fr [94, 95] m m' ∧ ∀ j, 1 ≤ j → j ≤ pL a → m'.2.1 94 j = (pf_flat a (pCn a st) (pL a) (fun _ => 0, pf_H0 a st)).1 j ∧ m'.2.1 95 j = (pf_flat a (pCn a st) (pL a) (fun _ => 0, pf_H0 a st)).2 j := by
  have hL8 := (pD_D hv).2.1
  have hfu : zz_fuel = 5000 := rfl
  have loop : ∀ (r k fuel : Nat) (m1 : zz_Mem), k + r = pL a + 1 → r < fuel → pq_fr [94, 95] m m1 → (∀ j, j < k → m1.2.1 95 j = pf_H0 a st j) → ∃ m', f_X2_flatten_2 fuel (nI k) m1 = f_X2_flatten_45 m' ∧ pq_fr [94, 95] m m' ∧ ∀ j, j ≤ pL a → m'.2.1 95 j = pf_H0 a st j := by
    intro r
    induction r with
    | zero =>
      intro k fuel m1 g1 g2 f g3
      obtain ⟨fu, rfl⟩ : ∃ n, fuel = n + 1 := ⟨fuel - 1, by omega⟩
      rw [f_X2_flatten_2, (f 72 (by simp)).1, hI.2.2.2.1.2.1.1, if_pos (nI_le (by omega) (by omega))]
      exact ⟨m1, rfl, f, fun j hj => g3 j (by omega)⟩
    | succ r ih =>
      intro k fuel m1 g1 g2 f g3
      obtain ⟨fu, rfl⟩ : ∃ n, fuel = n + 1 := ⟨fuel - 1, by omega⟩
      rw [f_X2_flatten_2, (f 72 (by simp)).1, hI.2.2.2.1.2.1.1, if_neg (nI_ge (by omega) (by omega)), pc_hang hv (pI_cF hI f (by simp)) (show k ≤ pL a by omega), pq_bndS, pq_ixE (by omega) (by decide), nI_clamp (by omega), pq_letM, pq_ixE (by omega) (by decide), pq_letM, pq_letI, nI_1]
      exact ih (k + 1) fu _ (by omega) (by omega) (pq_frJ (pq_frJ f _ _ (by simp)) _ _ (by simp)) (fun j hj => by
        rw [pz_Jn _ _ _ (by decide)]
        by_cases cj : j = k
        · rw [cj, qx_jsE]; rfl
        · rw [qx_jsN cj]; exact g3 j (by omega))
  obtain ⟨m1, e1, f1, g1⟩ := loop (pL a + 1) 0 zz_fuel m (by omega) (by omega) (pq_fr0 m) (fun j hj => absurd hj (Nat.not_lt_zero _))
  rw [nI_0] at e1
  unfold f_X2_flatten
  rw [e1]
  unfold f_X2_flatten_45
  rw [(f1 72 (by simp)).1, hI.2.2.2.1.2.1.1, nI_pred, pq_letI]
  obtain ⟨m', y1, y2, y3⟩ := pc_flat hv (c := pCn a st) (fun i _ => pCn_b _ _ i) (pL a) zz_fuel m1 (fun _ => 0) (pf_H0 a st) (Nat.le_refl _) (by omega) (pI_cF hI f1 (by simp)) (pc_cwF hw f1 (by simp) (by simp)) (fun j a1 a2 => by omega) (fun j a1 a2 => g1 j a2)
  exact ⟨m', y1, pq_frT f1 y2, y3⟩
theorem pr_flatten {a : Nat → Int32} (hv : pv_D a) {m : zz_Mem} (hr : pI_r m a) : ∃ m', f_X12_laysFlat m = some m' ∧ pK_r m m' ∧ pI_r m' a ∧ pr_st m' = pr_st m ∧ m'.1 0 28 = nI (pL a + 1) ∧ ∀ j, 1 ≤ j → j ≤ pL a → m'.2.1 19 j = (pf_flat a (pCn a (pr_st m)) (pL a) (fun _ => 0, pf_H0 a (pr_st m))).1 j ∧ m'.2.1 20 j = (pf_flat a (pCn a (pr_st m)) (pL a) (fun _ => 0, pf_H0 a (pr_st m))).2 j := by
  have hL8 := (pD_D hv).2.1
  have hfu : zz_fuel = 5000 := rfl
  obtain ⟨m0, e0, l0⟩ := pr_curveN hv hr
  obtain ⟨u1, u2, u3⟩ := pr_cwK l0 hr
  have loop : ∀ (r k fuel : Nat) (m1 : zz_Mem), k + r = pL a + 1 → r < fuel → pq_fr [19, 20] m0 m1 → (∀ j, j < k → m1.2.1 20 j = pf_H0 a (pr_st m) j) → ∃ m', f_X12_laysFlat_6 fuel (nI k) m1 = f_X12_laysFlat_39 m' ∧ pq_fr [19, 20] m0 m' ∧ ∀ j, j ≤ pL a → m'.2.1 20 j = pf_H0 a (pr_st m) j := by
    intro r
    induction r with
    | zero =>
      intro k fuel m1 g1 g2 f g3
      obtain ⟨fu, rfl⟩ : ∃ n, fuel = n + 1 := ⟨fuel - 1, by omega⟩
      rw [f_X12_laysFlat_6, (f 0 (by simp)).1, l0.2.2.2.2.1.1.1, if_pos (nI_le (by omega) (by omega))]
      exact ⟨m1, rfl, f, fun j hj => g3 j (by omega)⟩
    | succ r ih =>
      intro k fuel m1 g1 g2 f g3
      obtain ⟨fu, rfl⟩ : ∃ n, fuel = n + 1 := ⟨fuel - 1, by omega⟩
      obtain ⟨q1, q2⟩ := pI_rF u2 f (by simp)
      rw [f_X12_laysFlat_6, (f 0 (by simp)).1, l0.2.2.2.2.1.1.1, if_neg (nI_ge (by omega) (by omega)), pr_hang hv q1 (pr_cwS l0 f (by simp)) (show k ≤ pL a by omega), pq_bndS, pq_ixE (by omega) (by decide), nI_clamp (by omega), pq_letM, pq_letI, nI_1]
      exact ih (k + 1) fu _ (by omega) (by omega) (pq_frJ f _ _ (by simp)) (fun j hj => by
        by_cases cj : j = k
        · rw [cj, qx_jsE, q2, u3]; rfl
        · rw [qx_jsN cj]; exact g3 j (by omega))
  obtain ⟨m1, e1, f1, g1⟩ := loop (pL a + 1) 0 zz_fuel m0 (by omega) (by omega) (pq_fr0 m0) (fun j hj => absurd hj (Nat.not_lt_zero _))
  rw [nI_0] at e1
  unfold f_X12_laysFlat
  rw [e0, pq_bndS, e1]
  unfold f_X12_laysFlat_39
  rw [(f1 0 (by simp)).1, l0.2.2.2.2.1.1.1, nI_pred, pq_letI]
  obtain ⟨m', y1, y2, y3⟩ := pr_flat hv (c := pCn a (pr_st m)) (fun i _ => pCn_b _ _ i) (pL a) zz_fuel m1 m1 (fun _ => 0) (pf_H0 a (pr_st m)) (Nat.le_refl _) (by omega) (pI_rF u2 f1 (by simp)).1 (pr_cwS l0 f1 (by simp)) (fun j a1 a2 => by omega) (fun j a1 a2 => g1 j a2)
  have f2 : pq_fr [19, 20] m0 m' := pq_frT f1 y2
  obtain ⟨q1, q2⟩ := pI_rF u2 f2 (by simp)
  refine ⟨m', y1, pK_rT u1 (pK_rF f2 (by simp) (by rw [(f2 0 (by simp)).1]) (by rw [(f2 0 (by simp)).1]) (by rw [(f2 0 (by simp)).1])), q1, q2.trans u3, ?_, y3⟩
  rw [(f2 0 (by simp)).1]; exact l0.2.2.2.2.1.1.1
theorem op_flat : zL_op31 pI := by
  intro n μ ν p1 ⟨a, hv, hS, hc, hr, hx⟩
  obtain ⟨k0, r0, s0⟩ := pr_t0 hr 0 (by decide) 0
  unfold f_X11_flat f_X12_flat
  rw [pq_letM]
  generalize zz_setI ν 0 0 0 = ν1 at *
  have hL8 := (pD_D hv).2.1
  obtain ⟨ν2, e2, u1, u2, u3, u4, u5⟩ := pr_flatten hv r0
  have fin := pI_mk hv hS hx hc (pK_c0 μ) u2 (pK_rT k0 u1)
  have l1 : (1 : Int32) = nI 1 := rfl
  rw [e2, pq_bndS]
  rcases pi_pillar hv hc.2.2.2.1 u4 p1 with ⟨i, i1, i2, i3, i4, i5⟩ | ⟨i4, i5⟩
  · by_cases c0 : i = 0
    · have c1 : p1 = 0 := by rw [i3, c0]; rfl
      rw [if_pos (show p1 < 1 by rw [c1]; decide), if_pos c1]
      exact ⟨_, _, _, rfl, rfl, fin⟩
    · have c1 : ¬ p1 = 0 := by rw [i3]; exact nI_ne0 (by omega) (by omega)
      obtain ⟨μ1, e1, t2, t1, w1, -⟩ := pc_solvedNow hv hc
      obtain ⟨μ2, e3, f3, g3⟩ := pc_flatten hv t1 w1
      rw [if_neg (show ¬ p1 < 1 by rw [i3, l1]; exact nI_nlt (by omega) (by omega)), if_neg c1, i4, i5, pq_bndS, pq_bndS, if_neg (show ¬ (1 : Int32) = 0 by decide), if_neg (show ¬ (1 : Int32) = 0 by decide), e1, pq_bndS, e3, pq_bndS, i3, pq_ixE (by omega) (by decide), pq_ixE (by omega) (by decide), nI_clamp (by omega), (g3 i (by omega) i1).1, (u5 i (by omega) i1).1, s0]
      exact ⟨_, _, _, rfl, rfl, pI_mk hv hS hx (pI_cF t1 f3 (by simp)) (pK_cT t2 (pK_cF f3 (by simp))) u2 (pK_rT k0 u1)⟩
  · by_cases c1 : p1 < 1
    · rw [if_pos c1]
      by_cases c2 : p1 = 0
      · rw [if_pos c2]; exact ⟨_, _, _, rfl, rfl, fin⟩
      · rw [if_neg c2, i5, pq_bndS, if_pos rfl]; exact ⟨_, _, _, rfl, rfl, fin⟩
    · have c2 : ¬ p1 = 0 := fun e => c1 (by rw [e]; decide)
      rw [if_neg c1, if_neg c2, i4, i5, pq_bndS, pq_bndS, if_pos rfl, if_pos rfl]
      exact ⟨_, _, _, rfl, rfl, fin⟩
theorem op_left : zL_op32 pI := by
  intro n μ ν p1 ⟨a, hv, hS, hc, hr, hx⟩
  obtain ⟨k0, r0, s0⟩ := pr_t0 hr 0 (by decide) 0
  unfold f_X11_left f_X12_left
  rw [pq_letM]
  generalize zz_setI ν 0 0 0 = ν1 at *
  have hL8 := (pD_D hv).2.1
  obtain ⟨ν2, e2, u1, u2, u3, u4, u5⟩ := pr_flatten hv r0
  have fin := pI_mk hv hS hx hc (pK_c0 μ) u2 (pK_rT k0 u1)
  have l1 : (1 : Int32) = nI 1 := rfl
  rw [e2, pq_bndS]
  rcases pi_pillar hv hc.2.2.2.1 u4 p1 with ⟨i, i1, i2, i3, i4, i5⟩ | ⟨i4, i5⟩
  · by_cases c0 : i = 0
    · have c1 : p1 = 0 := by rw [i3, c0]; rfl
      rw [if_pos (show p1 < 1 by rw [c1]; decide), if_pos c1]
      exact ⟨_, _, _, rfl, rfl, fin⟩
    · have c1 : ¬ p1 = 0 := by rw [i3]; exact nI_ne0 (by omega) (by omega)
      obtain ⟨μ1, e1, t2, t1, w1, -⟩ := pc_solvedNow hv hc
      obtain ⟨μ2, e3, f3, g3⟩ := pc_flatten hv t1 w1
      rw [if_neg (show ¬ p1 < 1 by rw [i3, l1]; exact nI_nlt (by omega) (by omega)), if_neg c1, i4, i5, pq_bndS, pq_bndS, if_neg (show ¬ (1 : Int32) = 0 by decide), if_neg (show ¬ (1 : Int32) = 0 by decide), e1, pq_bndS, e3, pq_bndS, i3, pq_ixE (by omega) (by decide), pq_ixE (by omega) (by decide), nI_clamp (by omega), (g3 i (by omega) i1).2, (u5 i (by omega) i1).2, s0]
      exact ⟨_, _, _, rfl, rfl, pI_mk hv hS hx (pI_cF t1 f3 (by simp)) (pK_cT t2 (pK_cF f3 (by simp))) u2 (pK_rT k0 u1)⟩
  · by_cases c1 : p1 < 1
    · rw [if_pos c1]
      by_cases c2 : p1 = 0
      · rw [if_pos c2]; exact ⟨_, _, _, rfl, rfl, fin⟩
      · rw [if_neg c2, i5, pq_bndS, if_pos rfl]; exact ⟨_, _, _, rfl, rfl, fin⟩
    · have c2 : ¬ p1 = 0 := fun e => c1 (by rw [e]; decide)
      rw [if_neg c1, if_neg c2, i4, i5, pq_bndS, pq_bndS, if_pos rfl, if_pos rfl]
      exact ⟨_, _, _, rfl, rfl, fin⟩
