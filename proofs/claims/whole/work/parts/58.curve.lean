/-! ===== 58: the curve, as a matter of numbers ===== -/
def pCv (a : Nat → Int32) : Bool := decide (pv_n a 2 = 1)
def pfa (a : Nat → Int32) (k : Nat) (F : Nat → Int) (d : Nat) : Int := pa_fa (pCv a) (pDay a) k F d
def pf_len (a : Nat → Int32) (i p : Nat) : Int := (pP a i p : Int) - (if p = 0 then 0 else (pP a i (p - 1) : Int))
def pf_sum (a : Nat → Int32) (c : Nat → Nat) (i : Nat) (g : Nat → Int) : Nat → Int
  | 0 => 0
  | p + 1 => pf_sum a c i g p + (c i : Int) * pf_len a i p * g (pP a i p)
def pf_fits (a : Nat → Int32) (c : Nat → Nat) (k : Nat) (F : Nat → Int) (f : Int) : Prop :=
  (pK a (pInp a k) = 2 → f + pf_sum a c (pInp a k) (pfa a k (va_up F k f)) (pM a (pInp a k)) / 3600000 ≤ 1000000000) ∧
  (pK a (pInp a k) ≠ 2 → f * (3600000 + (c (pInp a k) : Int) * ((pE a (pInp a k) : Int) - (pS a (pInp a k) : Int))) ≤ 3600000 * pfa a k (va_up F k f) (pS a (pInp a k)))
def pf_isG (P : Int → Prop) (x : Int) : Prop := 0 ≤ x ∧ x ≤ 1000000000 ∧ (∀ y, 1 ≤ y → y ≤ x → P y) ∧ ∀ y, x < y → y ≤ 1000000000 → ¬ P y
def pf_FS (a : Nat → Int32) (c : Nat → Nat) (F : Nat → Int) (L : Nat) : Prop := F 0 = 1000000000 ∧ ∀ k, 1 ≤ k → k ≤ L → pf_isG (pf_fits a c k F) (F k)
theorem pf_isGu {P : Int → Prop} {x y : Int} (hx : pf_isG P x) (hy : pf_isG P y) : x = y := by
  obtain ⟨a1, a2, a3, a4⟩ := hx
  obtain ⟨b1, b2, b3, b4⟩ := hy
  rcases Int.lt_trichotomy x y with h | h | h
  · exact absurd (b3 y (by omega) (by omega)) (a4 y h b2)
  · exact h
  · exact absurd (a3 x (by omega) (by omega)) (b4 x h a2)
/-- the factor at a day hangs on the pillars around it alone -/
theorem pa_atT {day : Nat → Nat} {d j : Nat} : ∀ L, j ≤ L → (∀ k, j < k → k ≤ L → d < day k) → pa_at day d L = pa_at day d j := by
  intro L
  induction L with
  | zero => intro h _; rw [show j = 0 by omega]
  | succ L ih =>
    intro h1 h2
    by_cases e : j = L + 1
    · rw [e]
    · rw [pa_at, if_neg (by have := h2 (L + 1) (by omega) (Nat.le_refl _); omega)]
      exact ih (by omega) (fun k a1 a2 => h2 k a1 (by omega))
theorem pa_trunc {cv : Bool} {day : Nat → Nat} {L j d : Nat} {F G : Nat → Int} (hD : pa_D day L) (hj : j ≤ L) (hd : d ≤ day j) (hFG : ∀ k, k ≤ j → G k = F k) : pa_fa cv day L G d = pa_fa cv day j F d := by
  have hm := pa_mono hD.2.2.2
  have e : pa_at day d L = pa_at day d j := pa_atT L hj (fun k a1 a2 => Nat.lt_of_le_of_lt hd (hm j k a1 a2))
  have hk := pa_atL day d j
  obtain ⟨c1, c2⟩ := pa_atC day d hD.1 j
  unfold pa_fa
  rw [e]
  generalize pa_at day d j = k at *
  rw [hFG k hk]
  by_cases h1 : k = j
  · rw [if_pos (Or.inl h1 : k = j ∨ cv = true)]
    split
    · rfl
    · have : d = day k := by rw [h1] at c1 ⊢; omega
      rw [this, Int.sub_self, Int.mul_zero, Int.zero_ediv, Int.add_zero]
  · rw [hFG (k + 1) (by omega)]
    by_cases h2 : cv = true
    · rw [if_pos (Or.inr h2), if_pos (Or.inr h2)]
    · rw [if_neg (fun z => z.elim (fun q => by omega) h2), if_neg (fun z => z.elim h1 h2)]
theorem pa_last {cv : Bool} {day : Nat → Nat} {k d : Nat} {F : Nat → Int} (hk : 1 ≤ k) (hd : day k ≤ d) : pa_fa cv day k F d = F k := by
  obtain ⟨n, rfl⟩ : ∃ n, k = n + 1 := ⟨k - 1, by omega⟩
  unfold pa_fa
  rw [pa_at, if_pos hd, if_pos (Or.inl rfl)]
theorem pa_mid {cv : Bool} {day : Nat → Nat} {k d : Nat} {F : Nat → Int} (h0 : day 0 = 0) (h1 : day k < d) (h2 : d < day (k + 1)) : pa_fa cv day (k + 1) F d = if cv = true then F k else F k + ((F (k + 1) - F k) * ((d : Int) - (day k : Int))) / ((day (k + 1) : Int) - (day k : Int)) := by
  have e : pa_at day d (k + 1) = k := by
    rw [pa_at, if_neg (by omega)]
    cases k with
    | zero => rfl
    | succ n => rw [pa_at, if_pos (by omega)]
  unfold pa_fa
  rw [e]
  by_cases c : cv = true
  · rw [if_pos (Or.inr c), if_pos c]
  · rw [if_neg (fun z => z.elim (fun q => by omega) c), if_neg c]
theorem pf_up {F : Nat → Int} {k : Nat} {f : Int} : va_up F k f k = f := if_pos rfl
theorem pf_upn {F : Nat → Int} {k j : Nat} {f : Int} (h : j ≠ k) : va_up F k f j = F j := if_neg h
/-- the factor at a day, as the last pillar's factor goes up -/
theorem pa_slope {cv : Bool} {day : Nat → Nat} {k d : Nat} {F : Nat → Int} {f f' : Int} (hD : pa_D day (k + 1)) (hf : f ≤ f') : pa_fa cv day (k + 1) (va_up F (k + 1) f) d ≤ pa_fa cv day (k + 1) (va_up F (k + 1) f') d ∧ pa_fa cv day (k + 1) (va_up F (k + 1) f') d ≤ pa_fa cv day (k + 1) (va_up F (k + 1) f) d + (f' - f) := by
  by_cases h1 : d ≤ day k
  · rw [pa_trunc hD (by omega) h1 (fun j hj => pf_upn (by omega)), pa_trunc hD (by omega) h1 (fun j hj => pf_upn (by omega))]
    omega
  · by_cases h2 : day (k + 1) ≤ d
    · rw [pa_last (by omega) h2, pa_last (by omega) h2, pf_up, pf_up]
      omega
    · rw [pa_mid hD.1 (by omega) (by omega), pa_mid hD.1 (by omega) (by omega), pf_up, pf_up, pf_upn (by omega)]
      have hs : (0 : Int) < (day (k + 1) : Int) - (day k : Int) := by omega
      by_cases c : cv = true
      · rw [if_pos c, if_pos c, pf_upn (by omega)]; omega
      · rw [if_neg c, if_neg c, pf_upn (by omega)]
        generalize hw : (d : Int) - (day k : Int) = w at *
        generalize hsp : (day (k + 1) : Int) - (day k : Int) = s at *
        have e : (f' - F k) * w = (f - F k) * w + (f' - f) * w := by rw [← Int.add_mul]; congr 1; omega
        have b1 : 0 ≤ (f' - f) * w := Int.mul_nonneg (by omega) (by omega)
        have b2 : (f' - f) * w ≤ (f' - f) * s := Int.mul_le_mul_of_nonneg_left (by omega) (by omega)
        have m1 : (f - F k) * w / s ≤ (f' - F k) * w / s := Int.ediv_le_ediv hs (by omega)
        have m2 : (f' - F k) * w / s ≤ ((f - F k) * w + (f' - f) * s) / s := Int.ediv_le_ediv hs (by omega)
        rw [Int.add_mul_ediv_right _ _ (Int.ne_of_gt hs)] at m2
        omega
theorem pf_lenB {a : Nat → Int32} (i p : Nat) : 0 ≤ pf_len a i p := by
  unfold pf_len
  cases p with
  | zero => simp
  | succ p =>
    have := pP_m a i p
    rw [if_neg (by omega)]
    simp only [Nat.add_sub_cancel]
    omega
def pf_prev (a : Nat → Int32) (i p : Nat) : Int := if p = 0 then 0 else (pP a i (p - 1) : Int)
theorem pf_prevS (a : Nat → Int32) (i p : Nat) : pf_prev a i (p + 1) = pf_prev a i p + pf_len a i p := by
  unfold pf_prev pf_len
  rw [if_neg (by omega), Nat.add_sub_cancel]
  omega
theorem pf_sumB {a : Nat → Int32} {c : Nat → Nat} {i : Nat} {g : Nat → Int} (hg : ∀ d, 0 ≤ g d ∧ g d ≤ 1000000000) : ∀ p, 0 ≤ pf_sum a c i g p ∧ pf_sum a c i g p ≤ (c i : Int) * pf_prev a i p * 1000000000 := by
  intro p
  induction p with
  | zero => exact ⟨Int.le_refl _, by unfold pf_prev; simp [pf_sum]⟩
  | succ p ih =>
    rw [pf_sum, pf_prevS]
    have h1 : 0 ≤ (c i : Int) * pf_len a i p := Int.mul_nonneg (by omega) (pf_lenB i p)
    have h2 : 0 ≤ (c i : Int) * pf_len a i p * g (pP a i p) := Int.mul_nonneg h1 (hg _).1
    have h3 : (c i : Int) * pf_len a i p * g (pP a i p) ≤ (c i : Int) * pf_len a i p * 1000000000 := Int.mul_le_mul_of_nonneg_left (hg _).2 h1
    have e : (c i : Int) * (pf_prev a i p + pf_len a i p) * 1000000000 = (c i : Int) * pf_prev a i p * 1000000000 + (c i : Int) * pf_len a i p * 1000000000 := by rw [Int.mul_add, Int.add_mul]
    rw [e]
    omega
theorem pf_sumM {a : Nat → Int32} {c : Nat → Nat} {i : Nat} {g g' : Nat → Int} (hg : ∀ d, g d ≤ g' d) : ∀ p, pf_sum a c i g p ≤ pf_sum a c i g' p := by
  intro p
  induction p with
  | zero => exact Int.le_refl _
  | succ p ih =>
    rw [pf_sum, pf_sum]
    have h1 : 0 ≤ (c i : Int) * pf_len a i p := Int.mul_nonneg (by omega) (pf_lenB i p)
    have h3 : (c i : Int) * pf_len a i p * g (pP a i p) ≤ (c i : Int) * pf_len a i p * g' (pP a i p) := Int.mul_le_mul_of_nonneg_left (hg _) h1
    omega
theorem pD_Dk {a : Nat → Int32} (hv : pv_D a) {k : Nat} (hk : k ≤ pL a) : pa_D (pDay a) k := by
  obtain ⟨h1, h2, h3, h4⟩ := pD_D hv
  exact ⟨h1, by omega, fun j hj => h3 j (by omega), fun j hj => h4 j (by omega)⟩
theorem pf_mono {a : Nat → Int32} (hv : pv_D a) {c : Nat → Nat} {k : Nat} (h0 : 1 ≤ k) (hk : k ≤ pL a) {F : Nat → Int} {f f' : Int} (hf : f ≤ f') (h : pf_fits a c k F f') : pf_fits a c k F f := by
  obtain ⟨n, rfl⟩ : ∃ n, k = n + 1 := ⟨k - 1, by omega⟩
  have hD := pD_Dk hv hk
  have hs := fun d => pa_slope (cv := pCv a) (F := F) (d := d) hD hf
  obtain ⟨b1, b2, b3⟩ := pInp_b (a := a) h0 hk
  refine ⟨fun e => ?_, fun e => ?_⟩
  · have h1 := h.1 e
    have h2 := pf_sumM (a := a) (c := c) (i := pInp a (n + 1)) (g := pfa a (n + 1) (va_up F (n + 1) f)) (g' := pfa a (n + 1) (va_up F (n + 1) f')) (fun d => (hs d).1) (pM a (pInp a (n + 1)))
    have h3 := Int.ediv_le_ediv (c := 3600000) (by decide) h2
    omega
  · have h1 := h.2 e
    have h2 := hs (pS a (pInp a (n + 1)))
    have hc : 0 ≤ (c (pInp a (n + 1)) : Int) * ((pE a (pInp a (n + 1)) : Int) - (pS a (pInp a (n + 1)) : Int)) := Int.mul_nonneg (by omega) (by omega)
    unfold pfa at *
    generalize (c (pInp a (n + 1)) : Int) * ((pE a (pInp a (n + 1)) : Int) - (pS a (pInp a (n + 1)) : Int)) = D at *
    have h3 : 0 ≤ (f' - f) * D := Int.mul_nonneg (by omega) hc
    have e1 : f' * (3600000 + D) = f * (3600000 + D) + (f' - f) * 3600000 + (f' - f) * D := by
      rw [Int.add_assoc, ← Int.mul_add, ← Int.add_mul]
      congr 1
      omega
    omega
/-- a greatest one, by its two sides -/
theorem pf_mkG {a : Nat → Int32} (hv : pv_D a) {c : Nat → Nat} {k : Nat} (h0 : 1 ≤ k) (hk : k ≤ pL a) {F : Nat → Int} {x : Int} (hx : 0 ≤ x) (hx2 : x ≤ 1000000000) (h1 : x = 0 ∨ pf_fits a c k F x) (h2 : x = 1000000000 ∨ ¬ pf_fits a c k F (x + 1)) : pf_isG (pf_fits a c k F) x := by
  refine ⟨hx, hx2, fun y a1 a2 => ?_, fun y a1 a2 q => ?_⟩
  · rcases h1 with h | h
    · omega
    · exact pf_mono hv h0 hk a2 h
  · rcases h2 with h | h
    · omega
    · exact h (pf_mono hv h0 hk (by omega) q)
/-- fits hangs on the pillars ahead -/
theorem pf_faC {cv : Bool} {day : Nat → Nat} {k d : Nat} {F G : Nat → Int} (h : ∀ j, j ≤ k → G j = F j) : pa_fa cv day k G d = pa_fa cv day k F d := by
  have hk := pa_atL day d k
  unfold pa_fa
  generalize pa_at day d k = j at *
  rw [h j hk]
  by_cases c : j = k ∨ cv = true
  · rw [if_pos c, if_pos c]
  · rw [if_neg c, if_neg c, h (j + 1) (by have : ¬ j = k := fun z => c (Or.inl z); omega)]
theorem pf_sumC {a : Nat → Int32} {c c' : Nat → Nat} {i : Nat} {g g' : Nat → Int} (hc : c i = c' i) (hg : ∀ d, g d = g' d) : ∀ p, pf_sum a c i g p = pf_sum a c' i g' p := by
  intro p
  induction p with
  | zero => rfl
  | succ p ih => rw [pf_sum, pf_sum, ih, hc, hg]
theorem pf_fitsC {a : Nat → Int32} {c c' : Nat → Nat} {k : Nat} {F G : Nat → Int} (hc : c (pInp a k) = c' (pInp a k)) (h : ∀ j, j < k → F j = G j) (f : Int) : pf_fits a c k F f ↔ pf_fits a c' k G f := by
  have e : ∀ d, pfa a k (va_up F k f) d = pfa a k (va_up G k f) d := fun d => pf_faC (fun j hj => by
    by_cases e : j = k
    · rw [e, pf_up, pf_up]
    · rw [pf_upn e, pf_upn e]; exact h j (by omega))
  unfold pf_fits
  rw [pf_sumC hc e, hc, e]
theorem pf_FSu {a : Nat → Int32} {c c' : Nat → Nat} {F G : Nat → Int} {L : Nat} (hF : pf_FS a c F L) (hG : pf_FS a c' G L) : ∀ k, k ≤ L → (∀ j, 1 ≤ j → j ≤ k → c (pInp a j) = c' (pInp a j)) → F k = G k := by
  intro k
  induction k using Nat.strongRecOn with
  | ind k ih =>
    intro hk hc
    by_cases h0 : k = 0
    · rw [h0, hF.1, hG.1]
    · have h1 := hF.2 k (by omega) hk
      have h2 := hG.2 k (by omega) hk
      have e : pf_fits a c k F = pf_fits a c' k G := by
        funext f
        exact propext (pf_fitsC (hc k (by omega) (Nat.le_refl _)) (fun j hj => ih j hj (by omega) (fun l b1 b2 => hc l b1 (by omega))) f)
      rw [e] at h1
      exact pf_isGu h1 h2
theorem pf_FSb {a : Nat → Int32} {c : Nat → Nat} {F : Nat → Int} {L : Nat} (h : pf_FS a c F L) : pa_F F L := by
  intro k hk
  by_cases h0 : k = 0
  · rw [h0, h.1]; omega
  · have := h.2 k (by omega) hk; exact ⟨this.1, this.2.1⟩
