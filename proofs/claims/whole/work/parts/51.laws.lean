/-! ===== 51: laws: what a row of codes tells, by both reckoners ===== -/
def pe_clamp (v : Int64) : Int32 := if v ≤ 1000000 then (if (-1000000 : Int64) ≤ v then v.toInt32 else (-1000000 : Int64).toInt32) else (1000000 : Int64).toInt32
def pe_bet (c x y : Int32) : Int32 :=
  if c = 3003 then (if x = y then 1 else 0)
  else if c = 3004 then (if y ≤ x then 0 else 1)
  else if c = 3005 then (if x ≤ y then 0 else 1)
  else if c = 3007 then x &&& y
  else if c = 3008 then x ||| y
  else if c = 3000 then pe_clamp (x.toInt64 + y.toInt64) else if c = 3001 then pe_clamp (x.toInt64 - y.toInt64) else pe_clamp (x.toInt64 * y.toInt64)
theorem pe_116 (v : Int64) : f_X12_between_116 v = some (pe_clamp v) := by
  unfold f_X12_between_116 pe_clamp
  split
  · split <;> rfl
  · rfl
theorem pe_148 (v : Int64) : f_X3_joined_148 v = some (pe_clamp v) := by
  unfold f_X3_joined_148 pe_clamp
  split
  · split <;> rfl
  · rfl
theorem pe_between (c x y : Int32) (h : ¬ c = 3006) : f_X12_between c x y = some (pe_bet c x y) := by
  unfold f_X12_between pe_bet
  simp only [pe_116]
  by_cases h3 : c = 3003
  · simp only [if_pos h3]; split <;> rfl
  simp only [if_neg h3]
  by_cases h4 : c = 3004
  · simp only [if_pos h4]; split <;> rfl
  simp only [if_neg h4]
  by_cases h5 : c = 3005
  · simp only [if_pos h5]; split <;> rfl
  simp only [if_neg h5, if_neg h]
  by_cases h7 : c = 3007
  · simp only [if_pos h7]
  simp only [if_neg h7]
  by_cases h8 : c = 3008
  · simp only [if_pos h8]
  simp only [if_neg h8]
  by_cases h0 : c = 3000
  · simp only [if_pos h0]
  simp only [if_neg h0]
  by_cases h1 : c = 3001
  · simp only [if_pos h1]
  simp only [if_neg h1]
/-- what the codes make of a row that holds t numbers -/
def pe_ev (w : Nat → Int32) : List Int32 → Nat → (Nat → Int32) → Int32
  | [], _, s => s 0
  | c :: L, t, s =>
    if 3000 ≤ c then (if c = 3006 then pe_ev w L t (upd s (t - 1) (1 - s (t - 1)))
      else if c = 3009 then pe_ev w L (t - 2) (upd s (t - 3) (if s (t - 3) = 1 then s (t - 2) else s (t - 1)))
      else pe_ev w L (t - 1) (upd s (t - 2) (pe_bet c (s (t - 2)) (s (t - 1)))))
    else pe_ev w L (t + 1) (upd s t (if 1000 ≤ c then w (c - 1000).toNatClampNeg else c))
/-- the codes are well made: true stands for a truth -/
def pe_wf (lo hi : Nat) (b : Bool) : List Int32 → List Bool → Prop
  | [], ts => ts = [b]
  | c :: L, ts =>
    if 3000 ≤ c then (if c = 3006 then (∃ t, ts = true :: t ∧ pe_wf lo hi b L (true :: t))
      else if c = 3009 then (∃ t, ts = false :: false :: true :: t ∧ pe_wf lo hi b L (false :: t))
      else if c = 3007 ∨ c = 3008 then (∃ t, ts = true :: true :: t ∧ pe_wf lo hi b L (true :: t))
      else if c = 3003 ∨ c = 3004 ∨ c = 3005 then (∃ t, ts = false :: false :: t ∧ pe_wf lo hi b L (true :: t))
      else if c = 3000 ∨ c = 3001 ∨ c = 3002 then (∃ t, ts = false :: false :: t ∧ pe_wf lo hi b L (false :: t))
      else False)
    else (0 ≤ c ∧ ts.length < 64 ∧ (1000 ≤ c → lo ≤ (c - 1000).toNatClampNeg ∧ (c - 1000).toNatClampNeg < hi) ∧ pe_wf lo hi b L (false :: ts))
def pe_tv : List Bool → (Nat → Int32) → Prop
  | [], _ => True
  | b :: t, s => (b = true → s t.length = 0 ∨ s t.length = 1) ∧ pe_tv t s
theorem pe_tvC {ts : List Bool} {s s' : Nat → Int32} (h : ∀ j, j < ts.length → s' j = s j) (k : pe_tv ts s) : pe_tv ts s' := by
  induction ts with
  | nil => trivial
  | cons b t ih =>
    refine ⟨fun hb => ?_, ih (fun j hj => h j (Nat.lt_succ_of_lt hj)) k.2⟩
    rw [h t.length (Nat.lt_succ_self _)]
    exact k.1 hb
theorem pe_tvU {ts : List Bool} {s : Nat → Int32} (v : Int32) (b : Bool) (hv : b = true → v = 0 ∨ v = 1) (k : pe_tv ts s) : pe_tv (b :: ts) (upd s ts.length v) := by
  refine ⟨fun hb => ?_, pe_tvC (fun j hj => pk_un (by omega)) k⟩
  rw [pk_us]
  exact hv hb
theorem pe_betT {c x y : Int32} (h : c = 3007 ∨ c = 3008) (hx : x = 0 ∨ x = 1) (hy : y = 0 ∨ y = 1) : pe_bet c x y = 0 ∨ pe_bet c x y = 1 := by
  rcases h with rfl | rfl <;> rcases hx with rfl | rfl <;> rcases hy with rfl | rfl <;> decide
theorem pe_betC {c : Int32} (x y : Int32) (h : c = 3003 ∨ c = 3004 ∨ c = 3005) : pe_bet c x y = 0 ∨ pe_bet c x y = 1 := by
  rcases h with rfl | rfl | rfl
  · simp only [pe_bet, if_true]; split
    · exact Or.inr rfl
    · exact Or.inl rfl
  · have e : pe_bet 3004 x y = if y ≤ x then 0 else 1 := rfl
    rw [e]; split
    · exact Or.inl rfl
    · exact Or.inr rfl
  · have e : pe_bet 3005 x y = if x ≤ y then 0 else 1 := rfl
    rw [e]; split
    · exact Or.inl rfl
    · exact Or.inr rfl
/-- the shape of a step, read off pe_wf: what kind of code, what the row of types is -/
theorem pe_wfC {lo hi : Nat} {b : Bool} {c : Int32} {L : List Int32} {ts : List Bool} (h : pe_wf lo hi b (c :: L) ts) :
    (¬ 3000 ≤ c ∧ 0 ≤ c ∧ ts.length < 64 ∧ (1000 ≤ c → lo ≤ (c - 1000).toNatClampNeg ∧ (c - 1000).toNatClampNeg < hi) ∧ pe_wf lo hi b L (false :: ts)) ∨
    (c = 3006 ∧ ∃ t, ts = true :: t ∧ pe_wf lo hi b L (true :: t)) ∨
    (c = 3009 ∧ ∃ t, ts = false :: false :: true :: t ∧ pe_wf lo hi b L (false :: t)) ∨
    ((c = 3007 ∨ c = 3008) ∧ ∃ t, ts = true :: true :: t ∧ pe_wf lo hi b L (true :: t)) ∨
    ((c = 3003 ∨ c = 3004 ∨ c = 3005) ∧ ∃ t, ts = false :: false :: t ∧ pe_wf lo hi b L (true :: t)) ∨
    ((c = 3000 ∨ c = 3001 ∨ c = 3002) ∧ ∃ t, ts = false :: false :: t ∧ pe_wf lo hi b L (false :: t)) := by
  rw [pe_wf] at h
  by_cases h0 : 3000 ≤ c
  · rw [if_pos h0] at h
    by_cases h6 : c = 3006
    · rw [if_pos h6] at h
      right; left
      refine ⟨h6, ?_⟩
      exact h
    rw [if_neg h6] at h
    by_cases h9 : c = 3009
    · rw [if_pos h9] at h
      right; right; left
      refine ⟨h9, ?_⟩
      exact h
    rw [if_neg h9] at h
    by_cases h7 : c = 3007 ∨ c = 3008
    · rw [if_pos h7] at h
      right; right; right; left
      refine ⟨h7, ?_⟩
      exact h
    rw [if_neg h7] at h
    by_cases h3 : c = 3003 ∨ c = 3004 ∨ c = 3005
    · rw [if_pos h3] at h
      right; right; right; right; left
      refine ⟨h3, ?_⟩
      exact h
    rw [if_neg h3] at h
    by_cases h1 : c = 3000 ∨ c = 3001 ∨ c = 3002
    · rw [if_pos h1] at h
      right; right; right; right; right
      refine ⟨h1, ?_⟩
      exact h
    rw [if_neg h1] at h
    exact h.elim
  · rw [if_neg h0] at h
    exact Or.inl ⟨h0, h⟩
/-- a truth comes out as 0 or 1 -/
theorem pe_evT {lo hi : Nat} {w : Nat → Int32} : ∀ (L : List Int32) (ts : List Bool) (s : Nat → Int32), pe_wf lo hi true L ts → pe_tv ts s → pe_ev w L ts.length s = 0 ∨ pe_ev w L ts.length s = 1 := by
  intro L
  induction L with
  | nil =>
    intro ts s h k
    have e : ts = [true] := h
    subst e
    exact k.1 rfl
  | cons c L ih =>
    intro ts s h k
    rcases pe_wfC h with ⟨h0, _, _, _, h4⟩ | ⟨rfl, t, rfl, h4⟩ | ⟨rfl, t, rfl, h4⟩ | ⟨hc, t, rfl, h4⟩ | ⟨hc, t, rfl, h4⟩ | ⟨hc, t, rfl, h4⟩
    · rw [pe_ev, if_neg h0]
      exact ih (false :: ts) _ h4 (pe_tvU _ false (fun z => by cases z) k)
    · have e : pe_ev w (3006 :: L) (true :: t).length s = pe_ev w L (true :: t).length (upd s t.length (1 - s t.length)) := rfl
      rw [e]
      refine ih (true :: t) _ h4 (pe_tvU _ true (fun _ => ?_) k.2)
      rcases k.1 rfl with q | q <;> rw [q] <;> decide
    · have e : pe_ev w (3009 :: L) (false :: false :: true :: t).length s = pe_ev w L (false :: t).length (upd s t.length (if s t.length = 1 then s (t.length + 1) else s (t.length + 2))) := rfl
      rw [e]
      exact ih (false :: t) _ h4 (pe_tvU _ false (fun z => by cases z) k.2.2.2)
    · have e : pe_ev w (c :: L) (true :: true :: t).length s = pe_ev w L (true :: t).length (upd s t.length (pe_bet c (s t.length) (s (t.length + 1)))) := by rcases hc with rfl | rfl <;> rfl
      rw [e]
      exact ih (true :: t) _ h4 (pe_tvU _ true (fun _ => pe_betT hc (k.2.1 rfl) (k.1 rfl)) k.2.2)
    · have e : pe_ev w (c :: L) (false :: false :: t).length s = pe_ev w L (true :: t).length (upd s t.length (pe_bet c (s t.length) (s (t.length + 1)))) := by rcases hc with rfl | rfl | rfl <;> rfl
      rw [e]
      exact ih (true :: t) _ h4 (pe_tvU _ true (fun _ => pe_betC _ _ hc) k.2.2)
    · have e : pe_ev w (c :: L) (false :: false :: t).length s = pe_ev w L (false :: t).length (upd s t.length (pe_bet c (s t.length) (s (t.length + 1)))) := by rcases hc with rfl | rfl | rfl <;> rfl
      rw [e]
      exact ih (false :: t) _ h4 (pe_tvU _ false (fun z => by cases z) k.2.2)
/-- rows that agree on what stands, agree in the end -/
theorem pe_evC {lo hi : Nat} {w : Nat → Int32} {b : Bool} : ∀ (L : List Int32) (ts : List Bool) (s s' : Nat → Int32), pe_wf lo hi b L ts → (∀ j, j < ts.length → s' j = s j) → pe_ev w L ts.length s' = pe_ev w L ts.length s := by
  intro L
  have up : ∀ {n : Nat} {s s' : Nat → Int32} (v : Int32), (∀ j, j < n → s' j = s j) → ∀ j, j < n + 1 → upd s' n v j = upd s n v j := by
    intro n s s' v h j hj
    by_cases e : j = n
    · subst e; rw [pk_us, pk_us]
    · rw [pk_un e, pk_un e]; exact h j (by omega)
  induction L with
  | nil =>
    intro ts s s' h k
    have e : ts = [b] := h
    subst e
    exact k 0 (Nat.le_refl _)
  | cons c L ih =>
    intro ts s s' h k
    rcases pe_wfC h with ⟨h0, _, _, _, h4⟩ | ⟨rfl, t, rfl, h4⟩ | ⟨rfl, t, rfl, h4⟩ | ⟨hc, t, rfl, h4⟩ | ⟨hc, t, rfl, h4⟩ | ⟨hc, t, rfl, h4⟩
    · rw [pe_ev, pe_ev, if_neg h0, if_neg h0]
      exact ih (false :: ts) _ _ h4 (up _ k)
    · have e : ∀ s, pe_ev w (3006 :: L) (true :: t).length s = pe_ev w L (true :: t).length (upd s t.length (1 - s t.length)) := fun _ => rfl
      rw [e, e, k t.length (by simp only [List.length_cons]; omega)]
      exact ih (true :: t) _ _ h4 (up _ (fun j hj => k j (by simp; omega)))
    · have e : ∀ s, pe_ev w (3009 :: L) (false :: false :: true :: t).length s = pe_ev w L (false :: t).length (upd s t.length (if s t.length = 1 then s (t.length + 1) else s (t.length + 2))) := fun _ => rfl
      rw [e, e, k t.length (by simp only [List.length_cons]; omega), k (t.length + 1) (by simp only [List.length_cons]; omega), k (t.length + 2) (by simp only [List.length_cons]; omega)]
      exact ih (false :: t) _ _ h4 (up _ (fun j hj => k j (by simp; omega)))
    · have e : ∀ s, pe_ev w (c :: L) (true :: true :: t).length s = pe_ev w L (true :: t).length (upd s t.length (pe_bet c (s t.length) (s (t.length + 1)))) := by rcases hc with rfl | rfl <;> exact fun _ => rfl
      rw [e, e, k t.length (by simp only [List.length_cons]; omega), k (t.length + 1) (by simp only [List.length_cons]; omega)]
      exact ih (true :: t) _ _ h4 (up _ (fun j hj => k j (by simp; omega)))
    · have e : ∀ s, pe_ev w (c :: L) (false :: false :: t).length s = pe_ev w L (true :: t).length (upd s t.length (pe_bet c (s t.length) (s (t.length + 1)))) := by rcases hc with rfl | rfl | rfl <;> exact fun _ => rfl
      rw [e, e, k t.length (by simp only [List.length_cons]; omega), k (t.length + 1) (by simp only [List.length_cons]; omega)]
      exact ih (true :: t) _ _ h4 (up _ (fun j hj => k j (by simp; omega)))
    · have e : ∀ s, pe_ev w (c :: L) (false :: false :: t).length s = pe_ev w L (false :: t).length (upd s t.length (pe_bet c (s t.length) (s (t.length + 1)))) := by rcases hc with rfl | rfl | rfl <;> exact fun _ => rfl
      rw [e, e, k t.length (by simp only [List.length_cons]; omega), k (t.length + 1) (by simp only [List.length_cons]; omega)]
      exact ih (false :: t) _ _ h4 (up _ (fun j hj => k j (by simp; omega)))
/-- the reference's reckoner -/
theorem pe_ref {lo hi : Nat} {w : Nat → Int32} {b : Bool} {law fr N : Nat} (hlaw : law < 2) (hhi : hi ≤ 8) (hN : fr + N ≤ 900) : ∀ (L : List Int32) (k : Nat) (ts : List Bool) (fuel : Nat) (m : zz_Mem), L.length < fuel → k + L.length = N → m.1 1 (8 + law) = nI fr → m.1 1 (10 + law) = nI N → (∀ j, (hj : j < L.length) → m.1 1 (277 + fr + k + j) = L[j]) → (∀ j, lo ≤ j → j < hi → m.1 6 j = w j) → ts.length ≤ 64 → pe_wf lo hi b L ts →
    ∃ m', f_X12_reckons_4 fuel (nI law) (nI ts.length) (nI k) m = some (pe_ev w L ts.length (m.1 5), m') ∧ pq_fr [5] m m' := by
  intro L
  induction L with
  | nil =>
    intro k ts fuel m hf hk h8 h10 hc hw ht hwf
    obtain ⟨n, rfl⟩ : ∃ n, fuel = n + 1 := ⟨fuel - 1, by simp at hf; omega⟩
    rw [f_X12_reckons_4]
    have l10 : (10 : Int32) = nI 10 := rfl
    simp at hk
    subst hk
    rw [l10, nI_add, pq_ixE (by omega) (by decide), nI_clamp (by omega), h10, if_pos (nI_le (Nat.le_refl _) (by omega))]
    exact ⟨m, rfl, pq_fr0 m⟩
  | cons c L ih =>
    intro k ts fuel m hf hk h8 h10 hc hw ht hwf
    obtain ⟨n, rfl⟩ : ∃ n, fuel = n + 1 := ⟨fuel - 1, by omega⟩
    simp only [List.length_cons] at hk hf
    have hc0 : m.1 1 (277 + fr + k) = c := hc 0 (by simp)
    have hcs : ∀ j, (hj : j < L.length) → m.1 1 (277 + fr + (k + 1) + j) = L[j] := fun j hj => by
      have := hc (j + 1) (by simp; omega)
      rw [show 277 + fr + (k + 1) + j = 277 + fr + k + (j + 1) by omega]
      simpa using this
    rw [f_X12_reckons_4]
    have l10 : (10 : Int32) = nI 10 := rfl
    have l8 : (8 : Int32) = nI 8 := rfl
    have l277 : (277 : Int32) = nI 277 := rfl
    rw [l10, nI_add, pq_ixE (by omega) (by decide), nI_clamp (by omega), h10, if_neg (nI_ge (by omega) (by omega)), l8, nI_add, pq_ixE (by omega) (by decide), nI_clamp (by omega), h8, l277, nI_add, nI_add, pq_ixE (by omega) (by decide), nI_clamp (by omega), hc0, pq_letI]
    -- one step: a place of the row is written, the rest goes on
    have go : ∀ (ts' : List Bool) (i : Nat) (v : Int32), ts'.length ≤ 64 → pe_wf lo hi b L ts' → ∃ m', f_X12_reckons_4 n (nI law) (nI ts'.length) (nI (k + 1)) (zz_setI m 5 i v) = some (pe_ev w L ts'.length (upd (m.1 5) i v), m') ∧ pq_fr [5] m m' := by
      intro ts' i v h1 h2
      obtain ⟨m', e1, e2⟩ := ih (k + 1) ts' n (zz_setI m 5 i v) (by omega) (by omega) (by rw [pz_In _ _ _ (by decide)]; exact h8) (by rw [pz_In _ _ _ (by decide)]; exact h10) (fun j hj => by rw [pz_In _ _ _ (by decide)]; exact hcs j hj) (fun j a1 a2 => by rw [pz_In _ _ _ (by decide)]; exact hw j a1 a2) h1 h2
      rw [pz_Is] at e1
      exact ⟨m', e1, pq_frT (pq_frI (pq_fr0 m) i v (by simp)) e2⟩
    rcases pe_wfC hwf with ⟨h0, hp, hlt, hwd, h4⟩ | ⟨rfl, t, rfl, h4⟩ | ⟨rfl, t, rfl, h4⟩ | ⟨hcc, t, rfl, h4⟩ | ⟨hcc, t, rfl, h4⟩ | ⟨hcc, t, rfl, h4⟩
    · rw [if_neg h0]
      rw [pe_ev, if_neg h0]
      by_cases h1 : (1000 : Int32) ≤ c
      · rw [if_pos h1, if_pos h1]
        obtain ⟨w1, w2⟩ := hwd h1
        have hcn : vp_in (c - 1000) 8 := by
          rw [vp_in_iff]
          have e1 : (1000 : Int32).toInt = 1000 := rfl
          have e3 : (3000 : Int32).toInt = 3000 := rfl
          rw [Int32.le_iff_toInt_le, e1] at h1
          rw [Int32.le_iff_toInt_le, e3] at h0
          have e2 : (c - 1000).toInt = c.toInt - 1000 := by
            rw [Int32.toInt_sub, e1]
            exact Int.bmod_eq_of_le (by omega) (by omega)
          have e4 : ((c - 1000).toNatClampNeg : Int) = (c - 1000).toInt := pq_clT (by omega)
          omega
        unfold zz_ix
        rw [if_neg hcn, hw _ w1 w2]
        unfold f_X12_reckons_76
        rw [pq_ixE (by omega) (by decide), pq_letM, pq_letI, pq_letI, nI_clamp (by omega), nI_1, nI_1]
        exact go (false :: ts) _ _ (by simp; omega) h4
      · rw [if_neg h1, if_neg h1]
        unfold f_X12_reckons_76
        rw [pq_ixE (by omega) (by decide), pq_letM, pq_letI, pq_letI, nI_clamp (by omega), nI_1, nI_1]
        exact go (false :: ts) _ _ (by simp; omega) h4
    · have e : ∀ s, pe_ev w (3006 :: L) (true :: t).length s = pe_ev w L (true :: t).length (upd s t.length (1 - s t.length)) := fun _ => rfl
      have el : nI (true :: t).length - 1 = nI t.length := nI_pred t.length
      rw [if_pos (by decide), if_pos rfl, el, pq_ixE (by simp at ht; omega) (by decide), pq_ixE (by simp at ht; omega) (by decide), pq_letM, pq_letI, nI_clamp (by simp at ht; omega), nI_1, e]
      exact go (true :: t) _ _ ht h4
    · have e : ∀ s, pe_ev w (3009 :: L) (false :: false :: true :: t).length s = pe_ev w L (false :: t).length (upd s t.length (if s t.length = 1 then s (t.length + 1) else s (t.length + 2))) := fun _ => rfl
      simp at ht
      have el : nI (false :: false :: true :: t).length + (-2) = nI (t.length + 1) := by
        have e2 : (-2 : Int32) = -1 + -1 := rfl
        rw [e2, ← Int32.add_assoc]
        show nI (t.length + 1 + 1 + 1) + -1 + -1 = _
        rw [pk_m1, pk_m1]
      rw [if_pos (by decide), if_neg (by decide), if_pos rfl, pq_letI, el, nI_pred, pq_ixE (by omega) (by decide), nI_clamp (by omega), e]
      by_cases h1 : m.1 5 t.length = 1
      · rw [if_pos h1, if_pos h1, pq_ixE (by omega) (by decide), nI_clamp (by omega)]
        unfold f_X12_reckons_159
        rw [pq_ixE (by omega) (by decide), pq_letM, pq_letI, nI_clamp (by omega), nI_1]
        exact go (false :: t) _ _ (by simp; omega) h4
      · rw [if_neg h1, if_neg h1, nI_1, pq_ixE (by omega) (by decide), nI_clamp (by omega)]
        unfold f_X12_reckons_159
        rw [pq_ixE (by omega) (by decide), pq_letM, pq_letI, nI_clamp (by omega), nI_1]
        exact go (false :: t) _ _ (by simp; omega) h4
    replace hcc : c = 3007 ∨ c = 3008 ∨ c = 3008 := hcc.elim Or.inl (fun z => Or.inr (Or.inr z))
    all_goals
      simp at ht
      have el : ∀ (x y : Bool), nI (x :: y :: t).length + (-1) = nI (t.length + 1) := fun _ _ => pk_m1 (t.length + 1)
      have hb := fun (x y : Int32) => pe_between c x y (by rcases hcc with rfl | rfl | rfl <;> decide)
      have e : ∀ (x y z : Bool) s, pe_ev w (c :: L) (x :: y :: t).length s = pe_ev w L (z :: t).length (upd s t.length (pe_bet c (s t.length) (s (t.length + 1)))) := by rcases hcc with rfl | rfl | rfl <;> exact fun _ _ _ _ => rfl
      rw [if_pos (by rcases hcc with rfl | rfl | rfl <;> decide), if_neg (by rcases hcc with rfl | rfl | rfl <;> decide), if_neg (by rcases hcc with rfl | rfl | rfl <;> decide), pq_letI, el, nI_pred, pq_ixE (by omega) (by decide), pq_ixE (by omega) (by decide), nI_clamp (by omega), nI_clamp (by omega), hb, pq_bndS, pq_ixE (by omega) (by decide), pq_letM, pq_letI, nI_1]
    · rw [e _ _ true]
      exact go (true :: t) _ _ (by simp; omega) h4
    · rw [e _ _ true]
      exact go (true :: t) _ _ (by simp; omega) h4
    · rw [e _ _ false]
      exact go (false :: t) _ _ (by simp; omega) h4
/-- the class's codes -/
def pe_cm (sh : Nat) (c : Int32) : Int32 :=
  if 3000 ≤ c then (if c = 3006 then 2008 else if c = 3009 then 2009 else if c = 3007 then 2006 else if c = 3008 then 2007 else c - 1000) else if 1000 ≤ c then c - nI sh else c
theorem pe_joined {sh : Nat} {c x y : Int32} (h : ((c = 3007 ∨ c = 3008) ∧ (x = 0 ∨ x = 1) ∧ (y = 0 ∨ y = 1)) ∨ (c = 3003 ∨ c = 3004 ∨ c = 3005) ∨ (c = 3000 ∨ c = 3001 ∨ c = 3002)) : f_X3_joined (pe_cm sh c) x.toInt64 y.toInt64 = some (pe_bet c x y) := by
  have ew : x.toInt64 = y.toInt64 ↔ x = y := by rw [← Int64.toInt_inj, ← Int32.toInt_inj, Int32.toInt_toInt64, Int32.toInt_toInt64]
  have el : ∀ x y : Int32, x.toInt64 ≤ y.toInt64 ↔ x ≤ y := fun x y => by rw [Int64.le_iff_toInt_le, Int32.le_iff_toInt_le, Int32.toInt_toInt64, Int32.toInt_toInt64]
  rcases h with ⟨hc, hx, hy⟩ | hc | hc
  · have e7 : pe_cm sh 3007 = 2006 := rfl
    have e8 : pe_cm sh 3008 = 2007 := rfl
    rcases hc with rfl | rfl <;> rcases hx with rfl | rfl <;> rcases hy with rfl | rfl <;> first | (rw [e7]; decide) | (rw [e8]; decide)
  · rcases hc with rfl | rfl | rfl
    · have e : f_X3_joined (pe_cm sh 3003) x.toInt64 y.toInt64 = if x.toInt64 = y.toInt64 then some 1 else some 0 := rfl
      rw [e]
      simp only [ew, pe_bet, if_true]
      split <;> rfl
    · have e : f_X3_joined (pe_cm sh 3004) x.toInt64 y.toInt64 = if y.toInt64 ≤ x.toInt64 then some 0 else some 1 := rfl
      have e2 : pe_bet 3004 x y = if y ≤ x then 0 else 1 := rfl
      rw [e, e2]
      simp only [el]
      split <;> rfl
    · have e : f_X3_joined (pe_cm sh 3005) x.toInt64 y.toInt64 = if x.toInt64 ≤ y.toInt64 then some 0 else some 1 := rfl
      have e2 : pe_bet 3005 x y = if x ≤ y then 0 else 1 := rfl
      rw [e, e2]
      simp only [el]
      split <;> rfl
  · rcases hc with rfl | rfl | rfl
    · have e : f_X3_joined (pe_cm sh 3000) x.toInt64 y.toInt64 = f_X3_joined_148 (x.toInt64 + y.toInt64) := rfl
      rw [e, pe_148]; rfl
    · have e : f_X3_joined (pe_cm sh 3001) x.toInt64 y.toInt64 = f_X3_joined_148 (x.toInt64 - y.toInt64) := rfl
      rw [e, pe_148]; rfl
    · have e : f_X3_joined (pe_cm sh 3002) x.toInt64 y.toInt64 = f_X3_joined_148 (x.toInt64 * y.toInt64) := rfl
      rw [e, pe_148]; rfl
theorem pe_cmv (sh : Nat) {c : Int32} (h : c = 3007 ∨ c = 3008 ∨ c = 3003 ∨ c = 3004 ∨ c = 3005 ∨ c = 3000 ∨ c = 3001 ∨ c = 3002) : 2000 ≤ pe_cm sh c ∧ ¬ pe_cm sh c = 2008 ∧ ¬ pe_cm sh c = 2009 := by
  have e3007 : pe_cm sh 3007 = 2006 := rfl
  have e3008 : pe_cm sh 3008 = 2007 := rfl
  have e3003 : pe_cm sh 3003 = 2003 := rfl
  have e3004 : pe_cm sh 3004 = 2004 := rfl
  have e3005 : pe_cm sh 3005 = 2005 := rfl
  have e3000 : pe_cm sh 3000 = 2000 := rfl
  have e3001 : pe_cm sh 3001 = 2001 := rfl
  have e3002 : pe_cm sh 3002 = 2002 := rfl
  rcases h with rfl | rfl | rfl | rfl | rfl | rfl | rfl | rfl
  · rw [e3007]; decide
  · rw [e3008]; decide
  · rw [e3003]; decide
  · rw [e3004]; decide
  · rw [e3005]; decide
  · rw [e3000]; decide
  · rw [e3001]; decide
  · rw [e3002]; decide
/-- the class's reckoner -/
theorem pe_cls {sh hi : Nat} {w : Nat → Int32} {b : Bool} {N : Nat} (hsh : sh ≤ 5) (hhi : hi ≤ sh + 5) (hN : N ≤ 900) : ∀ (L : List Int32) (k : Nat) (ts : List Bool) (fuel : Nat) (m : zz_Mem), L.length < fuel → k + L.length = N → (∀ j, (hj : j < L.length) → m.1 10 (k + j) = pe_cm sh L[j]) → (∀ j, sh ≤ j → j < hi → m.1 11 (j - sh) = w j) → ts.length ≤ 64 → pe_wf sh hi b L ts → pe_tv ts (m.1 12) →
    ∃ m', f_X3_value_5 fuel (nI N) (nI ts.length) (nI k) m = some (pe_ev w L ts.length (m.1 12), m') ∧ pq_fr [12] m m' := by
  intro L
  induction L with
  | nil =>
    intro k ts fuel m hf hk hc hw ht hwf htv
    obtain ⟨n, rfl⟩ : ∃ n, fuel = n + 1 := ⟨fuel - 1, by simp at hf; omega⟩
    rw [f_X3_value_5]
    simp at hk
    subst hk
    rw [if_pos (nI_le (Nat.le_refl _) (by omega))]
    have e : ts = [b] := hwf
    subst e
    exact ⟨m, rfl, pq_fr0 m⟩
  | cons c L ih =>
    intro k ts fuel m hf hk hc hw ht hwf htv
    obtain ⟨n, rfl⟩ : ∃ n, fuel = n + 1 := ⟨fuel - 1, by omega⟩
    simp only [List.length_cons] at hk hf
    have hc0 : m.1 10 k = pe_cm sh c := hc 0 (by simp)
    have hcs : ∀ j, (hj : j < L.length) → m.1 10 (k + 1 + j) = pe_cm sh L[j] := fun j hj => by
      have := hc (j + 1) (by simp; omega)
      rw [show k + 1 + j = k + (j + 1) by omega]
      simpa using this
    rw [f_X3_value_5]
    have l900 : (900 : Int32) = nI 900 := rfl
    have l64 : (64 : Int32) = nI 64 := rfl
    rw [if_neg (nI_ge (by omega) (by omega)), l900, if_neg (nI_ge (by omega) (by omega)), pq_ixE (by omega) (by decide), nI_clamp (by omega), hc0, pq_letI]
    have go : ∀ (ts' : List Bool) (i : Nat) (v : Int32), ts'.length ≤ 64 → pe_wf sh hi b L ts' → pe_tv ts' (upd (m.1 12) i v) → ∃ m', f_X3_value_5 n (nI N) (nI ts'.length) (nI (k + 1)) (zz_setI m 12 i v) = some (pe_ev w L ts'.length (upd (m.1 12) i v), m') ∧ pq_fr [12] m m' := by
      intro ts' i v h1 h2 h3
      obtain ⟨m', e1, e2⟩ := ih (k + 1) ts' n (zz_setI m 12 i v) (by omega) (by omega) (fun j hj => by rw [pz_In _ _ _ (by decide)]; exact hcs j hj) (fun j a1 a2 => by rw [pz_In _ _ _ (by decide)]; exact hw j a1 a2) h1 h2 (by rw [pz_Is]; exact h3)
      rw [pz_Is] at e1
      exact ⟨m', e1, pq_frT (pq_frI (pq_fr0 m) i v (by simp)) e2⟩
    rcases pe_wfC hwf with ⟨h0, hp, hlt, hwd, h4⟩ | ⟨rfl, t, rfl, h4⟩ | ⟨rfl, t, rfl, h4⟩ | ⟨hcc, t, rfl, h4⟩ | ⟨hcc, t, rfl, h4⟩ | ⟨hcc, t, rfl, h4⟩
    · rw [pe_ev, if_neg h0]
      have e1 : (1000 : Int32).toInt = 1000 := rfl
      have e3 : (3000 : Int32).toInt = 3000 := rfl
      have e20 : (2000 : Int32).toInt = 2000 := rfl
      have e0 : (0 : Int32).toInt = 0 := rfl
      rw [Int32.le_iff_toInt_le, e0] at hp
      by_cases h1 : (1000 : Int32) ≤ c
      · rw [if_pos h1]
        have hx : pe_cm sh c = c - nI sh := by unfold pe_cm; rw [if_neg h0, if_pos h1]
        obtain ⟨w1, w2⟩ := hwd h1
        rw [Int32.le_iff_toInt_le, e1] at h1
        rw [Int32.le_iff_toInt_le, e3] at h0
        have e2 : (c - 1000).toInt = c.toInt - 1000 := by
          rw [Int32.toInt_sub, e1]
          exact Int.bmod_eq_of_le (by omega) (by omega)
        have e4 : ((c - 1000).toNatClampNeg : Int) = (c - 1000).toInt := pq_clT (by omega)
        have e5 : c - nI sh = nI (1000 + ((c - 1000).toNatClampNeg - sh)) := by
          apply Int32.toInt_inj.mp
          rw [Int32.toInt_sub, nI_toInt (by omega), nI_toInt (by omega)]
          rw [Int.bmod_eq_of_le (by omega) (by omega)]
          omega
        have l2000 : (2000 : Int32) = nI 2000 := rfl
        have l1000 : (1000 : Int32) = nI 1000 := rfl
        have l51 : (5 : Int32) - 1 = nI 4 := rfl
        generalize hj : (c - 1000).toNatClampNeg = j at *
        rw [hx, e5, l2000, if_neg (nI_ge (by omega) (by omega)), l64, if_pos (nI_lt (by omega) (by omega)), l1000, if_pos (nI_le (by omega) (by omega)), pk_sub (by omega), l51]
        have e6 : f_J9_min_7cf53 (nI (1000 + (j - sh) - 1000)) (nI 4) = some (nI (j - sh)) := by
          unfold f_J9_min_7cf53
          rw [show 1000 + (j - sh) - 1000 = j - sh by omega, if_neg (nI_nlt (by omega) (by omega))]
        rw [e6, pq_bndS, pq_ixE (by omega) (by decide), nI_clamp (by omega), hw j w1 w2]
        unfold f_X3_value_88
        rw [pq_ixE (by omega) (by decide), pq_letM, pq_letI, pq_letI, nI_clamp (by omega), nI_1, nI_1]
        exact go (false :: ts) _ _ (by simp; omega) h4 (pe_tvU _ false (fun z => by cases z) htv)
      · rw [if_neg h1]
        have hx : pe_cm sh c = c := by unfold pe_cm; rw [if_neg h0, if_neg h1]
        rw [hx, if_neg (by rw [Int32.le_iff_toInt_le, e1] at h1; rw [Int32.le_iff_toInt_le, e20]; omega), l64, if_pos (nI_lt (by omega) (by omega)), if_neg h1]
        unfold f_X3_value_88
        rw [pq_ixE (by omega) (by decide), pq_letM, pq_letI, pq_letI, nI_clamp (by omega), nI_1, nI_1]
        exact go (false :: ts) _ _ (by simp; omega) h4 (pe_tvU _ false (fun z => by cases z) htv)
    · have e : ∀ s, pe_ev w (3006 :: L) (true :: t).length s = pe_ev w L (true :: t).length (upd s t.length (1 - s t.length)) := fun _ => rfl
      have el : nI (true :: t).length - 1 = nI t.length := nI_pred t.length
      have hx : pe_cm sh 3006 = 2008 := rfl
      have l1 : (1 : Int32) = nI 1 := rfl
      simp at ht
      rw [hx, if_pos (by decide), if_pos rfl, if_neg (by rw [l1]; exact nI_nlt (by simp) (by simp; omega)), el, pq_ixE (by omega) (by decide), pq_ixE (by omega) (by decide), pq_letM, pq_letI, nI_clamp (by omega), nI_1, e]
      refine go (true :: t) _ _ (by simp; omega) h4 (pe_tvU _ true (fun _ => ?_) htv.2)
      rcases htv.1 rfl with q | q <;> rw [q] <;> decide
    · have e : ∀ s, pe_ev w (3009 :: L) (false :: false :: true :: t).length s = pe_ev w L (false :: t).length (upd s t.length (if s t.length = 1 then s (t.length + 1) else s (t.length + 2))) := fun _ => rfl
      simp at ht
      have el : nI (false :: false :: true :: t).length + (-2) = nI (t.length + 1) := by
        have e2 : (-2 : Int32) = -1 + -1 := rfl
        rw [e2, ← Int32.add_assoc]
        show nI (t.length + 1 + 1 + 1) + -1 + -1 = _
        rw [pk_m1, pk_m1]
      have hx : pe_cm sh 3009 = 2009 := rfl
      have l3 : (3 : Int32) = nI 3 := rfl
      rw [hx, if_pos (by decide), if_neg (by decide), if_pos rfl, if_neg (by rw [l3]; exact nI_nlt (by simp) (by simp; omega)), pq_letI, el, nI_pred, pq_ixE (by omega) (by decide), nI_clamp (by omega), e]
      have hq := htv.2.2.1 rfl
      by_cases h1 : m.1 12 t.length = 1
      · rw [if_pos h1, if_neg (by rw [h1]; decide), pq_ixE (by omega) (by decide), nI_clamp (by omega)]
        unfold f_X3_value_180
        rw [pq_ixE (by omega) (by decide), pq_letM, pq_letI, nI_clamp (by omega), nI_1]
        exact go (false :: t) _ _ (by simp; omega) h4 (pe_tvU _ false (fun z => by cases z) htv.2.2.2)
      · rw [if_neg h1, if_pos (hq.resolve_right h1), nI_1, pq_ixE (by omega) (by decide), nI_clamp (by omega)]
        unfold f_X3_value_180
        rw [pq_ixE (by omega) (by decide), pq_letM, pq_letI, nI_clamp (by omega), nI_1]
        exact go (false :: t) _ _ (by simp; omega) h4 (pe_tvU _ false (fun z => by cases z) htv.2.2.2)
    · have hj := pe_joined (sh := sh) (Or.inl ⟨hcc, htv.2.1 rfl, htv.1 rfl⟩)
      replace hcc : c = 3007 ∨ c = 3008 ∨ c = 3008 := hcc.elim Or.inl (fun z => Or.inr (Or.inr z))
      simp at ht
      have el : ∀ (x y : Bool), nI (x :: y :: t).length + (-1) = nI (t.length + 1) := fun _ _ => pk_m1 (t.length + 1)
      have e : ∀ (x y z : Bool) s, pe_ev w (c :: L) (x :: y :: t).length s = pe_ev w L (z :: t).length (upd s t.length (pe_bet c (s t.length) (s (t.length + 1)))) := by rcases hcc with rfl | rfl | rfl <;> exact fun _ _ _ _ => rfl
      have l2 : (2 : Int32) = nI 2 := rfl
      have hv := pe_cmv sh (c := c) (by rcases hcc with rfl | rfl | rfl <;> simp)
      rw [if_pos hv.1, if_neg hv.2.1, if_neg hv.2.2, if_neg (by rw [l2]; exact nI_nlt (by simp) (by simp; omega)), pq_letI, el, nI_pred, pq_ixE (by omega) (by decide), pq_ixE (by omega) (by decide), nI_clamp (by omega), nI_clamp (by omega)]
      simp only [List.length_cons] at hj
      rw [hj, pq_bndS, pq_ixE (by omega) (by decide), pq_letM, pq_letI, nI_1, e _ _ true]
      exact go (true :: t) _ _ (by simp; omega) h4 (pe_tvU _ true (fun _ => pe_betT (hcc.elim Or.inl (fun z => Or.inr (z.elim id id))) (htv.2.1 rfl) (htv.1 rfl)) htv.2.2)
    · have hj := fun x y => pe_joined (sh := sh) (x := x) (y := y) (Or.inr (Or.inl hcc))
      simp at ht
      have el : ∀ (x y : Bool), nI (x :: y :: t).length + (-1) = nI (t.length + 1) := fun _ _ => pk_m1 (t.length + 1)
      have e : ∀ (x y z : Bool) s, pe_ev w (c :: L) (x :: y :: t).length s = pe_ev w L (z :: t).length (upd s t.length (pe_bet c (s t.length) (s (t.length + 1)))) := by rcases hcc with rfl | rfl | rfl <;> exact fun _ _ _ _ => rfl
      have l2 : (2 : Int32) = nI 2 := rfl
      have hv := pe_cmv sh (c := c) (by rcases hcc with rfl | rfl | rfl <;> simp)
      rw [if_pos hv.1, if_neg hv.2.1, if_neg hv.2.2, if_neg (by rw [l2]; exact nI_nlt (by simp) (by simp; omega)), pq_letI, el, nI_pred, pq_ixE (by omega) (by decide), pq_ixE (by omega) (by decide), nI_clamp (by omega), nI_clamp (by omega), hj, pq_bndS, pq_ixE (by omega) (by decide), pq_letM, pq_letI, nI_1, e _ _ true]
      exact go (true :: t) _ _ (by simp; omega) h4 (pe_tvU _ true (fun _ => pe_betC _ _ hcc) htv.2.2)
    · have hj := fun x y => pe_joined (sh := sh) (x := x) (y := y) (Or.inr (Or.inr hcc))
      simp at ht
      have el : ∀ (x y : Bool), nI (x :: y :: t).length + (-1) = nI (t.length + 1) := fun _ _ => pk_m1 (t.length + 1)
      have e : ∀ (x y z : Bool) s, pe_ev w (c :: L) (x :: y :: t).length s = pe_ev w L (z :: t).length (upd s t.length (pe_bet c (s t.length) (s (t.length + 1)))) := by rcases hcc with rfl | rfl | rfl <;> exact fun _ _ _ _ => rfl
      have l2 : (2 : Int32) = nI 2 := rfl
      have hv := pe_cmv sh (c := c) (by rcases hcc with rfl | rfl | rfl <;> simp)
      rw [if_pos hv.1, if_neg hv.2.1, if_neg hv.2.2, if_neg (by rw [l2]; exact nI_nlt (by simp) (by simp; omega)), pq_letI, el, nI_pred, pq_ixE (by omega) (by decide), pq_ixE (by omega) (by decide), nI_clamp (by omega), nI_clamp (by omega), hj, pq_bndS, pq_ixE (by omega) (by decide), pq_letM, pq_letI, nI_1, e _ _ false]
      exact go (false :: t) _ _ (by simp; omega) h4 (pe_tvU _ false (fun z => by cases z) htv.2.2)
