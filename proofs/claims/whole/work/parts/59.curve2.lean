/-! ===== 59: no factor is ever 0; the reference's curve ===== -/
theorem pa_faR {cv : Bool} {day : Nat → Nat} {L : Nat} {F : Nat → Int} {d : Nat} {lo : Int} (hD : pa_D day L) (hF : ∀ k, k ≤ L → lo ≤ F k) : lo ≤ pa_fa cv day L F d := by
  unfold pa_fa
  have hk := pa_atL day d L
  obtain ⟨c1, c2⟩ := pa_atC day d hD.1 L
  generalize pa_at day d L = k at *
  have h1 := hF k hk
  split
  · exact h1
  · rename_i hn
    have hkL : k < L := by
      have : ¬ k = L := fun e => hn (Or.inl e)
      omega
    have h2 := hF (k + 1) (by omega)
    have h3 := hD.2.2.2 k hkL
    have h4 := c2 (k + 1) (by omega) (by omega)
    obtain ⟨l1, l2⟩ := pa_line (A := F k) (B := F (k + 1)) (w := (d : Int) - (day k : Int)) (s := (day (k + 1) : Int) - (day k : Int)) (by omega) (by omega)
    rcases Int.le_total (F k) (F (k + 1)) with h | h
    · have := l1 h; omega
    · have := l2 h; omega
def pf_lb : Nat → Int
  | 0 => 1000000000
  | k + 1 => pf_lb k * 7 / 10
theorem pf_lbB : ∀ k, k ≤ 8 → 50000000 ≤ pf_lb k ∧ pf_lb k ≤ 1000000000 := by decide
theorem pf_lbM (k : Nat) (h : k ≤ 8) : pf_lb (k + 1) ≤ pf_lb k := by
  rw [pf_lb]
  have := pf_lbB k h
  omega
theorem pf_c999 {x y : Int} (h0 : 0 ≤ x) (h1 : x ≤ 999) (g0 : 0 ≤ y) (g1 : y ≤ 1029) : 0 ≤ x * y ∧ x * y ≤ 1027971 := by
  have h2 : x * y ≤ 999 * 1029 := Int.mul_le_mul h1 g1 g0 (by decide)
  exact ⟨Int.mul_nonneg h0 g0, by omega⟩
theorem pf_low {a : Nat → Int32} (hv : pv_D a) {c : Nat → Nat} (hc : ∀ i, i < pN a → c i ≤ 999) {n : Nat} (hk : n + 1 ≤ pL a) {F : Nat → Int} {B f : Int} (hB : 50000000 ≤ B) (hB2 : B ≤ 1000000000) (hF : ∀ j, j ≤ n → B ≤ F j ∧ F j ≤ 1000000000) (hf : f = B * 7 / 10) : pf_fits a c (n + 1) F f := by
  obtain ⟨b1, b2, b3⟩ := pInp_b (a := a) (k := n + 1) (by omega) hk
  have hD := pD_Dk hv hk
  have hin := pv_inD hv b1
  have eb := pE_b hin
  have cb := hc _ b1
  have f1 : 10 * f ≤ 7 * B := by omega
  have f2 : 0 ≤ f ∧ f ≤ 700000000 := by omega
  refine ⟨fun e => ?_, fun e => ?_⟩
  · have hg : ∀ d, 0 ≤ pfa a (n + 1) (va_up F (n + 1) f) d ∧ pfa a (n + 1) (va_up F (n + 1) f) d ≤ 1000000000 := fun d => pa_faB hD (fun j hj => by
      by_cases c : j = n + 1
      · rw [c, pf_up]; omega
      · rw [pf_upn c]; have := hF j (by omega); omega)
    have h1 := pf_sumB (a := a) (c := c) (i := pInp a (n + 1)) hg (pM a (pInp a (n + 1)))
    have hM : pM a (pInp a (n + 1)) = pQ a (pInp a (n + 1)) + 1 := by unfold pM; rw [if_pos e]
    have hp : pf_prev a (pInp a (n + 1)) (pM a (pInp a (n + 1))) = (pE a (pInp a (n + 1)) : Int) := by
      rw [hM]; unfold pf_prev; rw [if_neg (by omega), Nat.add_sub_cancel, pP_last hin e]
    rw [hp] at h1
    have h2 := pf_c999 (x := (c (pInp a (n + 1)) : Int)) (y := (pE a (pInp a (n + 1)) : Int)) (by omega) (by omega) (by omega) (by omega)
    have h3 : pf_sum a c (pInp a (n + 1)) (pfa a (n + 1) (va_up F (n + 1) f)) (pM a (pInp a (n + 1))) / 3600000 ≤ 1027971000000000 / 3600000 := Int.ediv_le_ediv (by decide) (by omega)
    have h4 : (1027971000000000 : Int) / 3600000 = 285547500 := by decide
    omega
  · have hgap : 0 ≤ (pE a (pInp a (n + 1)) : Int) - (pS a (pInp a (n + 1)) : Int) ∧ (pE a (pInp a (n + 1)) : Int) - (pS a (pInp a (n + 1)) : Int) ≤ 1029 := by omega
    have h2 := pf_c999 (x := (c (pInp a (n + 1)) : Int)) (y := (pE a (pInp a (n + 1)) : Int) - (pS a (pInp a (n + 1)) : Int)) (by omega) (by omega) hgap.1 hgap.2
    have easy : B ≤ pfa a (n + 1) (va_up F (n + 1) f) (pS a (pInp a (n + 1))) → f * (3600000 + (c (pInp a (n + 1)) : Int) * ((pE a (pInp a (n + 1)) : Int) - (pS a (pInp a (n + 1)) : Int))) ≤ 3600000 * pfa a (n + 1) (va_up F (n + 1) f) (pS a (pInp a (n + 1))) := by
      intro h
      have h3 : f * (3600000 + (c (pInp a (n + 1)) : Int) * ((pE a (pInp a (n + 1)) : Int) - (pS a (pInp a (n + 1)) : Int))) ≤ f * 4627971 := Int.mul_le_mul_of_nonneg_left (by omega) f2.1
      omega
    by_cases c1 : pS a (pInp a (n + 1)) ≤ pDay a n
    · apply easy
      unfold pfa
      rw [pa_trunc hD (by omega) c1 (fun j hj => pf_upn (by omega))]
      exact pa_faR (pD_Dk hv (by omega)) (fun j hj => (hF j hj).1)
    · have hmid := pa_mid (cv := pCv a) (day := pDay a) (k := n) (d := pS a (pInp a (n + 1))) (F := va_up F (n + 1) f) hD.1 (by omega) (by omega)
      rw [pf_up, pf_upn (by omega)] at hmid
      by_cases c2 : pCv a = true
      · apply easy
        unfold pfa
        rw [hmid, if_pos c2]
        exact (hF n (Nat.le_refl _)).1
      · rw [if_neg c2] at hmid
        unfold pfa
        rw [hmid]
        have hA := hF n (Nat.le_refl _)
        have hd1 : (pDay a (n + 1) : Int) ≤ 1029 := by have := pDay_b hv hk; omega
        rw [b3] at hd1 ⊢
        have hcb : (c (pInp a (n + 1)) : Int) ≤ 999 := by omega
        have hc0 : (0 : Int) ≤ (c (pInp a (n + 1)) : Int) := by omega
        generalize (c (pInp a (n + 1)) : Int) = z at *
        generalize hw : (pS a (pInp a (n + 1)) : Int) - (pDay a n : Int) = w at *
        generalize hg : (pE a (pInp a (n + 1)) : Int) - (pS a (pInp a (n + 1)) : Int) = g at *
        have hsp : (pE a (pInp a (n + 1)) : Int) - (pDay a n : Int) = w + g := by omega
        rw [hsp]
        generalize F n = A at *
        have w0 : 0 < w := by omega
        have g0 : 1 ≤ g := by omega
        have hzs := pf_c999 (x := z) (y := w + g) hc0 hcb (by omega) (by omega)
        have hq := Int.emod_lt_of_pos ((f - A) * w) (show 0 < w + g by omega)
        have hq2 := Int.mul_ediv_add_emod ((f - A) * w) (w + g)
        generalize hQ : (f - A) * w / (w + g) = q at *
        have hX0 : 0 ≤ f * g := Int.mul_nonneg f2.1 (by omega)
        have hXY : 10 * (f * g) ≤ 7 * (A * g) := by
          have : (10 * f) * g ≤ (7 * A) * g := Int.mul_le_mul_of_nonneg_right (by omega) (by omega)
          rw [Int.mul_assoc, Int.mul_assoc] at this
          exact this
        have hY : A * 1 ≤ A * g := Int.mul_le_mul_of_nonneg_left g0 (by omega)
        have hXz : (f * g) * (z * (w + g)) ≤ (f * g) * 1027971 := Int.mul_le_mul_of_nonneg_left hzs.2 hX0
        have id1 : f * (3600000 + z * g) * (w + g) = 3600000 * (f * w) + 3600000 * (f * g) + (f * g) * (z * (w + g)) := by grind
        have id2 : 3600000 * (A + q) * (w + g) = 3600000 * (A * w) + 3600000 * (A * g) + 3600000 * ((w + g) * q) := by grind
        have id3 : (f - A) * w = f * w - A * w := Int.sub_mul _ _ _
        by_cases fin : f * (3600000 + z * g) ≤ 3600000 * (A + q)
        · exact fin
        · exfalso
          have h5 : (3600000 * (A + q) + 1) * (w + g) ≤ f * (3600000 + z * g) * (w + g) := Int.mul_le_mul_of_nonneg_right (by omega) (by omega)
          rw [Int.add_mul, id1, id2] at h5
          omega
theorem pf_pos {a : Nat → Int32} (hv : pv_D a) {c : Nat → Nat} (hc : ∀ i, i < pN a → c i ≤ 999) {F : Nat → Int} {L : Nat} (hL : L ≤ pL a) (hF : pf_FS a c F L) : ∀ k, k ≤ L → ∀ j, j ≤ k → pf_lb k ≤ F j := by
  have hL8 := (pD_D hv).2.1
  have hb := pf_FSb hF
  intro k
  induction k with
  | zero => intro _ j hj; rw [show j = 0 by omega, hF.1]; exact Int.le_refl _
  | succ k ih =>
    intro hk j hj
    have h1 := ih (by omega)
    have h2 := pf_lbB k (by omega)
    by_cases e : j = k + 1
    · rw [e]
      have h3 := pf_low hv hc (n := k) (by omega) (F := F) h2.1 h2.2 (fun j hj => ⟨h1 j hj, (hb j (by omega)).2⟩) (f := pf_lb (k + 1)) rfl
      have h4 := hF.2 (k + 1) (by omega) hk
      by_cases fin : pf_lb (k + 1) ≤ F (k + 1)
      · exact fin
      · have h5 := pf_lbM k (by omega)
        exact absurd h3 (h4.2.2.2 _ (by omega) (by omega))
    · have h5 := pf_lbM k (by omega)
      have := h1 j (by omega)
      omega
theorem pf_pos1 {a : Nat → Int32} (hv : pv_D a) {c : Nat → Nat} (hc : ∀ i, i < pN a → c i ≤ 999) {F : Nat → Int} (hF : pf_FS a c F (pL a)) (d : Nat) : 1 ≤ pfa a (pL a) F d ∧ pfa a (pL a) F d ≤ 1000000000 := by
  have hL8 := (pD_D hv).2.1
  have h1 := pf_pos hv hc (Nat.le_refl _) hF (pL a) (Nat.le_refl _)
  have h2 := pf_lbB (pL a) hL8
  have h3 := pa_faR (cv := pCv a) (d := d) (pD_D hv) (fun k hk => h1 k hk)
  have h4 := pa_faB (cv := pCv a) (d := d) (pD_D hv) (pf_FSb hF)
  unfold pfa
  omega
theorem pCv_eq {a : Nat → Int32} (hv : pv_D a) : a 2 = if pCv a then 1 else 0 := by
  have h := hv.2.2.1
  unfold pCv
  rw [h.1]
  have := h.2
  have : pv_n a 2 = 0 ∨ pv_n a 2 = 1 := by omega
  rcases this with e | e <;> rw [e] <;> rfl
/-- the reference's numbers of an input -/
def pr_cnt (m : zz_Mem) (a : Nat → Int32) (c : Nat → Nat) : Prop := ∀ i, i < pN a → m.1 12 i = nI (c i) ∧ c i ≤ 999
def pr_cv (m : zz_Mem) (a : Nat → Int32) (k : Nat) (F : Nat → Int) : Prop := m.1 0 28 = nI (k + 1) ∧ (∀ j, j ≤ k → m.1 13 j = nI (pDay a j)) ∧ ∀ j, j ≤ k → m.1 14 j = iI (F j)
theorem pr_fa {a : Nat → Int32} {m : zz_Mem} (hv : pv_D a) (hm : pv_ag (m.1 1) a) {k : Nat} (hk : k ≤ pL a) {F : Nat → Int} (hF : pa_F F k) (hc : pr_cv m a k F) {d : Nat} (hd : d < 20000) : f_X12_factorAt m (nI d) = some (iI (pfa a k F d)) :=
  pa_rFactorAt (pD_Dk hv hk) hF hd hc.1 hc.2.1 hc.2.2 ((hm 2 (by decide)).trans (pCv_eq hv))
theorem pr_end {a : Nat → Int32} {m : zz_Mem} (hv : pv_D a) (hs : pr_sched m a) {i p : Nat} (hi : i < pN a) (hp : p < pM a i) : f_X12_endOf m (nI i) (nI p) = some (nI (pP a i p)) := by
  have h8 := (pN_b hv).1
  have h34 := pM_b (pv_inD hv hi)
  have e := (hs.1 i hi).2.2.2 p hp
  unfold f_X12_endOf
  simp (disch := omega) only [qx_lit, pk_mul, nI_add, qx_ix, qx_cl, e]
theorem pr_len {a : Nat → Int32} {m : zz_Mem} (hv : pv_D a) (hs : pr_sched m a) {i p : Nat} (hi : i < pN a) (hp : p < pM a i) : f_X12_lengthOf m (nI i) (nI p) = some (iI (pf_len a i p)) := by
  have h8 := (pN_b hv).1
  have h34 := pM_b (pv_inD hv hi)
  unfold f_X12_lengthOf pf_len
  rw [pr_end hv hs hi hp, pq_bndS]
  by_cases h0 : p = 0
  · rw [if_pos (by rw [h0]; rfl), if_pos h0]
    have e0 : (0 : Int32) = iI 0 := rfl
    rw [e0, iI_nI, iI_sub]
  · have l1 : (1 : Int32) = nI 1 := rfl
    rw [if_neg (nI_ne0 (by omega) (by omega)), if_neg h0, l1, pk_sub (by omega), pr_end hv hs hi (by omega), pq_bndS, iI_nI, iI_nI, iI_sub]
theorem pf_lenR {a : Nat → Int32} (hv : pv_D a) {i p : Nat} (hi : i < pN a) (hp : p < pM a i) : 0 ≤ pf_len a i p ∧ pf_len a i p ≤ 1029 := by
  have hin := pv_inD hv hi
  have hk : pK a i = 2 := by
    by_cases e : pK a i = 2
    · exact e
    · unfold pM at hp; rw [if_neg e] at hp; omega
  have hM : pM a i = pQ a i + 1 := by unfold pM; rw [if_pos hk]
  have := pP_b hin hk (k := p) (by omega)
  have h2 := pf_lenB (a := a) i p
  refine ⟨h2, ?_⟩
  unfold pf_len
  split <;> omega
theorem qx_dJ {p q : Int} (hp : 0 ≤ p) (hp2 : p < 9223372036854775808) (hq : 0 < q) (hq2 : q < 9223372036854775808) : lI p / lI q = lI (p / q) := by
  apply Int64.toInt_inj.mp
  have e1 : (lI p).toInt = p := lI_t (by omega) hp2
  have e2 : (lI q).toInt = q := lI_t (by omega) hq2
  have h1 : 0 ≤ p / q := Int.ediv_nonneg hp (by omega)
  have h2 : p / q ≤ p := Int.ediv_le_self _ hp
  rw [pq_Jdiv (by omega), e1, e2, lI_t (by omega) (by omega), Int.tdiv_eq_ediv_of_nonneg hp]
theorem pr_sum {a : Nat → Int32} {m : zz_Mem} {c : Nat → Nat} (hv : pv_D a) (hm : pv_ag (m.1 1) a) (hs : pr_sched m a) (hc : pr_cnt m a c) {k : Nat} (hk : k ≤ pL a) {F : Nat → Int} (hF : pa_F F k) (hcv : pr_cv m a k F) {i : Nat} (hi : i < pN a) (f : Int64) : ∀ (r p fuel : Nat), p + r = pM a i → r < fuel → f_X12_fits_101 m fuel (nI i) f (lI (pf_sum a c i (pfa a k F) p)) (nI p) = f_X12_fits_148 m f (lI (pf_sum a c i (pfa a k F) (pM a i))) := by
  have h8 := (pN_b hv).1
  have h34 := pM_b (pv_inD hv hi)
  have eM := (hs.1 i hi).2.2.1
  intro r
  induction r with
  | zero =>
    intro p fuel h1 h2
    obtain ⟨n, rfl⟩ : ∃ n, fuel = n + 1 := ⟨fuel - 1, by omega⟩
    have e : p = pM a i := by omega
    subst e
    rw [f_X12_fits_101, pq_ixE (by omega) (by decide), nI_clamp (by omega), eM, if_pos (Int32.le_refl _)]
  | succ r ih =>
    intro p fuel h1 h2
    obtain ⟨n, rfl⟩ : ∃ n, fuel = n + 1 := ⟨fuel - 1, by omega⟩
    have hp : p < pM a i := by omega
    have hl := pf_lenR hv hi hp
    have hK : pK a i = 2 := by
      by_cases e : pK a i = 2
      · exact e
      · unfold pM at hp; rw [if_neg e] at hp; omega
    have hM : pM a i = pQ a i + 1 := by unfold pM; rw [if_pos hK]
    have hP := pP_b (pv_inD hv hi) hK (k := p) (by omega)
    have hfa := pa_faB (cv := pCv a) (d := pP a i p) (pD_Dk hv hk) hF
    have cb := (hc i hi).2
    rw [f_X12_fits_101, pq_ixE (by omega) (by decide), nI_clamp (by omega), eM, if_neg (nI_ge (by omega) (by omega)), pr_len hv hs hi hp, pq_bndS]
    unfold f_X12_dueOf
    rw [pq_ixE (by omega) (by decide), nI_clamp (by omega), (hc i hi).1, pq_bndS, pr_end hv hs hi hp, pq_bndS, pr_fa hv hm hk hF hcv (by omega), pq_bndS, pq_letJ, pq_letI, nI_1, qx_nl (by omega), iI_l (by omega) (by omega), iI_l (by unfold pfa; omega) (by unfold pfa; omega), lI_mul, lI_mul, lI_add]
    exact ih (p + 1) n (by omega) (by omega)
theorem pa_fa0 {cv : Bool} {day : Nat → Nat} {L : Nat} {F : Nat → Int} (hD : pa_D day L) : pa_fa cv day L F 0 = F 0 := by
  rw [pa_trunc hD (Nat.zero_le _) (Nat.zero_le _) (fun k _ => rfl)]
  unfold pa_fa pa_at
  rw [if_pos (Or.inl rfl)]
theorem pr_fits {a : Nat → Int32} {m : zz_Mem} {c : Nat → Nat} (hv : pv_D a) (hm : pv_ag (m.1 1) a) (hs : pr_sched m a) (hc : pr_cnt m a c) {k : Nat} (h0 : 1 ≤ k) (hk : k ≤ pL a) {F : Nat → Int} (hF0 : F 0 = 1000000000) (hF : pa_F F (k - 1)) {f : Int} (hf : 0 ≤ f) (hf2 : f ≤ 1000000000) (hcv : pr_cv m a k (va_up F k f)) : (pf_fits a c k F f ∧ f_X12_fits m (nI (pInp a k)) (lI f) = some 1) ∨ (¬ pf_fits a c k F f ∧ f_X12_fits m (nI (pInp a k)) (lI f) = some 0) := by
  have h8 := (pN_b hv).1
  have hfu : zz_fuel = 5000 := rfl
  obtain ⟨b1, b2, b3⟩ := pInp_b (a := a) h0 hk
  have hin := pv_inD hv b1
  have eb := pE_b hin
  have cb := (hc _ b1).2
  have hFk : pa_F (va_up F k f) k := fun j hj => by
    by_cases e : j = k
    · rw [e, pf_up]; exact ⟨hf, hf2⟩
    · rw [pf_upn e]; exact hF j (by omega)
  have e24 : m.1 1 (24 + pInp a k) = nI (pK a (pInp a k)) := by rw [hm _ (by omega)]; exact hin.1.1
  have b24 : pK a (pInp a k) ≤ 2 := hin.1.2
  have hgap : 0 ≤ (pE a (pInp a k) : Int) - (pS a (pInp a k) : Int) ∧ (pE a (pInp a k) : Int) - (pS a (pInp a k) : Int) ≤ 1029 := by omega
  have hd := pf_c999 (x := (c (pInp a k) : Int)) (y := (pE a (pInp a k) : Int) - (pS a (pInp a k) : Int)) (by omega) (by omega) hgap.1 hgap.2
  have l24 : (24 : Int32) = nI 24 := rfl
  have l0 : (0 : Int32) = nI 0 := rfl
  have l1 : (1 : Int32) = nI 1 := rfl
  have lB : (3600000 : Int64) = lI 3600000 := rfl
  have lU : (3600000000000000 : Int64) = lI 3600000000000000 := rfl
  have lu : (1000000000 : Int64) = lI 1000000000 := rfl
  unfold f_X12_fits f_X12_dueOf
  rw [pq_ixE (by omega) (by decide), pq_ixE (by omega) (by decide), pq_ixE (by omega) (by decide), nI_clamp (by omega), (hs.1 _ b1).1, (hs.1 _ b1).2.1, (hc _ b1).1, qx_sl (by omega) (by omega), qx_nl (by omega), lI_mul, pq_bndS, pq_letJ, lB, lI_add, l24, nI_add, pq_ixE (by omega) (by decide), nI_clamp (by omega), e24, lI_mul]
  have hprod : 0 ≤ f * (3600000 + (c (pInp a k) : Int) * ((pE a (pInp a k) : Int) - (pS a (pInp a k) : Int))) ∧ f * (3600000 + (c (pInp a k) : Int) * ((pE a (pInp a k) : Int) - (pS a (pInp a k) : Int))) ≤ 1000000000 * 4627971 := ⟨Int.mul_nonneg hf (by omega), Int.mul_le_mul hf2 (by omega) (by omega) (by decide)⟩
  unfold pf_fits
  by_cases k0 : pK a (pInp a k) = 0
  · have es : pS a (pInp a k) = 0 := by unfold pS; rw [if_neg (by omega)]
    have e0 : pfa a k (va_up F k f) (pS a (pInp a k)) = 1000000000 := by
      unfold pfa
      rw [es, pa_fa0 (pD_Dk hv hk), pf_upn (by omega), hF0]
    rw [e0, if_pos (by rw [k0]; rfl), lU]
    by_cases fin : f * (3600000 + (c (pInp a k) : Int) * ((pE a (pInp a k) : Int) - (pS a (pInp a k) : Int))) ≤ 3600000 * 1000000000
    · left
      refine ⟨⟨fun e => by omega, fun _ => fin⟩, ?_⟩
      rw [if_neg (by rw [qx_llt (by omega) (by omega) (by omega) (by omega)]; omega)]
    · right
      refine ⟨fun z => fin (z.2 (by omega)), ?_⟩
      rw [if_pos (by rw [qx_llt (by omega) (by omega) (by omega) (by omega)]; omega)]
  · rw [if_neg (nI_ne0 (by omega) (by omega)), pq_ixE (by omega) (by decide)]
    by_cases k1 : pK a (pInp a k) = 1
    · have hS := pS_b hin
      have hfa := pa_faB (cv := pCv a) (d := pS a (pInp a k)) (pD_Dk hv hk) hFk
      rw [if_pos (by rw [k1]; rfl), pq_ixE (by omega) (by decide), pr_fa hv hm hk hFk hcv (by omega), pq_bndS, iI_l (by unfold pfa; omega) (by unfold pfa; omega), lI_mul]
      by_cases fin : f * (3600000 + (c (pInp a k) : Int) * ((pE a (pInp a k) : Int) - (pS a (pInp a k) : Int))) ≤ 3600000 * pfa a k (va_up F k f) (pS a (pInp a k))
      · left
        refine ⟨⟨fun e => by omega, fun _ => fin⟩, ?_⟩
        unfold pfa at fin ⊢
        rw [if_neg (by rw [qx_llt (by omega) (by omega) (by omega) (by omega)]; omega)]
      · right
        refine ⟨fun z => fin (z.2 (by omega)), ?_⟩
        unfold pfa at fin ⊢
        rw [if_pos (by rw [qx_llt (by omega) (by omega) (by omega) (by omega)]; omega)]
    · have k2 : pK a (pInp a k) = 2 := by omega
      have h34 := pM_b hin
      have hsum := pr_sum hv hm hs hc hk hFk hcv b1 (lI f) (pM a (pInp a k)) 0 zz_fuel (by omega) (by omega)
      have z0 : lI (pf_sum a c (pInp a k) (pfa a k (va_up F k f)) 0) = 0 := rfl
      rw [z0, nI_0] at hsum
      rw [if_neg (by rw [l1, nI_eq (by omega) (by decide)]; exact k1), hsum]
      unfold f_X12_fits_148
      have hg : ∀ d, 0 ≤ pfa a k (va_up F k f) d ∧ pfa a k (va_up F k f) d ≤ 1000000000 := fun d => pa_faB (pD_Dk hv hk) hFk
      have hb := pf_sumB (a := a) (c := c) (i := pInp a k) hg (pM a (pInp a k))
      have hM : pM a (pInp a k) = pQ a (pInp a k) + 1 := by unfold pM; rw [if_pos k2]
      have hp : pf_prev a (pInp a k) (pM a (pInp a k)) = (pE a (pInp a k) : Int) := by
        rw [hM]; unfold pf_prev; rw [if_neg (by omega), Nat.add_sub_cancel, pP_last hin k2]
      rw [hp] at hb
      have h2 := pf_c999 (x := (c (pInp a k) : Int)) (y := (pE a (pInp a k) : Int)) (by omega) (by omega) (by omega) (by omega)
      generalize pf_sum a c (pInp a k) (pfa a k (va_up F k f)) (pM a (pInp a k)) = S at *
      have d1 : 0 ≤ S / 3600000 := Int.ediv_nonneg hb.1 (by decide)
      have d2 : S / 3600000 ≤ S := Int.ediv_le_self _ hb.1
      rw [lB, qx_dJ hb.1 (by omega) (by decide) (by decide), lI_add, lu]
      by_cases fin : f + S / 3600000 ≤ 1000000000
      · left
        refine ⟨⟨fun _ => fin, fun e => absurd k2 e⟩, ?_⟩
        rw [if_neg (by rw [qx_llt (by omega) (by omega) (by omega) (by omega)]; omega)]
      · right
        refine ⟨fun z => fin (z.1 k2), ?_⟩
        rw [if_pos (by rw [qx_llt (by omega) (by omega) (by omega) (by omega)]; omega)]
