/-! ===== 97: steps of both readers of laws ===== -/
def pEr (ν ν' : zz_Mem) : Prop := pq_fr [0, 4] ν ν' ∧ ν'.2 = ν.2 ∧ (∀ j, j < 6 ∨ j = 8 ∨ 12 < j → ν'.1 0 j = ν.1 0 j) ∧ ∀ j, j < 276 → ν'.1 4 j = ν.1 4 j
theorem pEr0 (ν : zz_Mem) : pEr ν ν := ⟨pq_fr0 ν, rfl, fun _ _ => rfl, fun _ _ => rfl⟩
theorem pErT {ν ν1 ν2 : zz_Mem} (h : pEr ν ν1) (g : pEr ν1 ν2) : pEr ν ν2 := ⟨pq_frT h.1 g.1, g.2.1.trans h.2.1, fun j a => (g.2.2.1 j a).trans (h.2.2.1 j a), fun j a => (g.2.2.2 j a).trans (h.2.2.2 j a)⟩
theorem pEr_Z {ν ν' : zz_Mem} (h : pNz ν ν') : pEr ν ν' := ⟨pq_frW h.1 (by simp), h.2.1, h.2.2, fun j _ => by rw [(h.1 4 (by simp)).1]⟩
theorem pTxr_E {B : Nat → Nat} {len : Nat} {ν ν' : zz_Mem} (h : pTxr B len ν) (g : pEr ν ν') : pTxr B len ν' := ⟨h.1, fun j hj => by rw [(g.1 3 (by simp)).1]; exact h.2.1 j hj, (g.2.2.1 8 (by omega)).trans h.2.2⟩
/-- codes that lay the row of types T upon the stack, at most D deep -/
def pEx (lo hi : Nat) (T : List Bool) (D : Nat) (C : List Int32) : Prop := ∀ bb s rest, s.length + D ≤ 64 → pe_wf lo hi bb rest (T ++ s) → pe_wf lo hi bb (C ++ rest) s
theorem pEx_nil (lo hi : Nat) : pEx lo hi [] 0 [] := fun _ _ _ _ h => h
theorem pEx_mono {lo hi : Nat} {T : List Bool} {D D' : Nat} {C : List Int32} (h : pEx lo hi T D C) (hD : D ≤ D') : pEx lo hi T D' C := fun bb s rest h1 h2 => h bb s rest (by omega) h2
theorem pEx_app {lo hi : Nat} {T : List Bool} {D D2 D3 : Nat} {C C2 : List Int32} {b : Bool} (h : pEx lo hi T D C) (g : pEx lo hi [b] D2 C2) (h3 : D ≤ D3) (h4 : T.length + D2 ≤ D3) : pEx lo hi (b :: T) D3 (C ++ C2) := fun bb s rest h1 h2 => by
  rw [List.append_assoc]
  exact h bb s (C2 ++ rest) (by omega) (g bb (T ++ s) rest (by rw [List.length_append]; omega) h2)
theorem pEx_code {lo hi : Nat} {T T' : List Bool} {D : Nat} {C : List Int32} {c : Int32} (h : pEx lo hi T D C) (g : ∀ bb s rest, pe_wf lo hi bb rest (T' ++ s) → pe_wf lo hi bb (c :: rest) (T ++ s)) : pEx lo hi T' D (C ++ [c]) := fun bb s rest h1 h2 => by
  rw [List.append_assoc]
  exact h bb s (c :: rest) h1 (g bb s rest h2)
/-- codes laid down behind the first N, in both -/
def pAp (sh N : Nat) (C : List Int32) (μ ν μ' ν' : zz_Mem) : Prop := μ'.1 23 3 = nI (N + C.length) ∧ ν'.1 4 276 = nI (N + C.length) ∧ (∀ j, j < N → μ'.1 24 j = μ.1 24 j ∧ ν'.1 4 (277 + j) = ν.1 4 (277 + j)) ∧ ∀ i, i < C.length → ν'.1 4 (277 + (N + i)) = C.getD i 0 ∧ μ'.1 24 (N + i) = pe_cm sh (C.getD i 0)
theorem pAp_T {sh N : Nat} {C C2 : List Int32} {μ ν μ1 ν1 μ2 ν2 : zz_Mem} (h : pAp sh N C μ ν μ1 ν1) (g : pAp sh (N + C.length) C2 μ1 ν1 μ2 ν2) : pAp sh N (C ++ C2) μ ν μ2 ν2 := by
  obtain ⟨h1, h2, h3, h4⟩ := h
  obtain ⟨g1, g2, g3, g4⟩ := g
  refine ⟨by rw [g1, List.length_append, Nat.add_assoc], by rw [g2, List.length_append, Nat.add_assoc], fun j hj => ?_, fun i hi => ?_⟩
  · obtain ⟨a, b⟩ := g3 j (by omega)
    rw [a, b]; exact h3 j hj
  · rw [List.length_append] at hi
    by_cases c : i < C.length
    · obtain ⟨a, b⟩ := g3 (N + i) (by omega)
      rw [a, b, List.getD_eq_getElem?_getD, List.getElem?_append_left c, ← List.getD_eq_getElem?_getD]
      exact h4 i c
    · have := g4 (i - C.length) (by omega)
      rw [show N + C.length + (i - C.length) = N + i by omega] at this
      rw [List.getD_eq_getElem?_getD, List.getElem?_append_right (by omega), ← List.getD_eq_getElem?_getD]
      exact this
theorem pAp_N {sh N : Nat} {C : List Int32} {μ ν μ1 ν1 μ2 ν2 : zz_Mem} (h : pAp sh N C μ ν μ1 ν1) (n : pNx μ1 μ2) (z : pNz ν1 ν2) : pAp sh N C μ ν μ2 ν2 := by
  unfold pAp
  rw [(n.1 23 (by simp)).1, (n.1 24 (by simp)).1, (z.1 4 (by simp)).1]
  exact h
/-- how far both are: types laid, e tokens eaten that have no code yet -/
def pSt2 (B : Nat → Nat) (len sh lo hi N p : Nat) (μ ν : zz_Mem) (T : List Bool) (e D k0 : Nat) (μ1 ν1 : zz_Mem) : Prop := pEc μ μ1 ∧ pEr ν ν1 ∧ ((∃ p1 C, k0 ≤ C.length ∧ p + C.length + e ≤ p1 ∧ pOK B len p1 μ1 ν1 ∧ pEx lo hi T D C ∧ pAp sh N C μ ν μ1 ν1) ∨ (∃ p1 k, p + k + e ≤ p1 ∧ pBad B len p1 μ1 ν1 ∧ μ1.1 23 3 = nI (N + k) ∧ ν1.1 4 276 = nI (N + k)) ∨ pZF B len μ1 ν1)
theorem ps_start {B : Nat → Nat} {len sh lo hi N p : Nat} {μ ν : zz_Mem} (h : pOK B len p μ ν) (h1 : μ.1 23 3 = nI N) (h2 : ν.1 4 276 = nI N) : pSt2 B len sh lo hi N p μ ν [] 0 0 0 μ ν :=
  ⟨pEc0 μ, pEr0 ν, Or.inl ⟨p, [], by simp, by simp, h, pEx_nil lo hi, h1, h2, fun _ _ => ⟨rfl, rfl⟩, fun i hi => absurd hi (Nat.not_lt_zero _)⟩⟩
/-- a token is eaten -/
theorem ps_next {B : Nat → Nat} {len sh lo hi N p p1 e D k0 : Nat} {T : List Bool} {C : List Int32} {μ ν μ1 ν1 : zz_Mem} (hc : pEc μ μ1) (hr : pEr ν ν1) (hk : k0 ≤ C.length) (hp : p + C.length + e ≤ p1) (ho : pOK B len p1 μ1 ν1) (hx : pEx lo hi T D C) (ha : pAp sh N C μ ν μ1 ν1) (ht : pkK B len p1 ≠ 30) : ∃ μ2 ν2, f_X7_next μ1 = some μ2 ∧ f_X12_next ν1 = some ν2 ∧ pSt2 B len sh lo hi N p μ ν T (e + 1) D k0 μ2 ν2 := by
  obtain ⟨μ2, ν2, p2, y1, y2, y3, y4, y5, y6, y7⟩ := pj_next ho
  have k := (pkE_b (B := B) ho.2.2.1 (fun j hj => (ho.1.2.1 j hj).1)).2.2.1 ht
  have ha2 := pAp_N ha y3 (pNz_y y4)
  refine ⟨μ2, ν2, y1, y2, pEcT hc (pEc_N y3), pErT hr (pEr_Z (pNz_y y4)), ?_⟩
  rcases y7 with o | b
  · exact Or.inl ⟨p2, C, hk, by omega, o, hx, ha2⟩
  · exact Or.inr (Or.inl ⟨p2, C.length, by omega, b, ha2.1, ha2.2.1⟩)
/-- a fault is told -/
theorem ps_fail {B : Nat → Nat} {len sh lo hi N p p1 w : Nat} {T : List Bool} {e D k0 : Nat} {C : List Int32} {μ ν μ1 ν1 : zz_Mem} (hc : pEc μ μ1) (hr : pEr ν ν1) (hN : N + C.length ≤ 900) (ho : pOK B len p1 μ1 ν1) (ha : pAp sh N C μ ν μ1 ν1) (hw : 0 < w ∧ w < 5) : ∃ μ2 ν2, f_X7_fail (nI w) μ1 = some μ2 ∧ f_X12_fails (nI w) ν1 = some ν2 ∧ pSt2 B len sh lo hi N p μ ν T e D k0 μ2 ν2 ∧ pZF B len μ2 ν2 := by
  obtain ⟨μ2, ν2, y1, y2, y3, y4, y5⟩ := pj_failO ho hw
  have z : pZF B len μ2 ν2 := ⟨⟨w, p1, y5⟩, _, hN, by rw [(y3.1 23 (by simp)).1]; exact ha.1⟩
  exact ⟨μ2, ν2, y1, y2, ⟨pEcT hc (pEc_N y3), pErT hr (pEr_Z y4), Or.inr (Or.inr z)⟩, z⟩
/-- a part is read -/
theorem ps_sub {B : Nat → Nat} {len sh lo hi N p e D D2 D3 k0 : Nat} {T : List Bool} {b : Bool} {μ ν μ1 ν1 : zz_Mem} {F G : zz_Mem → Option zz_Mem} (hN : N ≤ p) (hl : len ≤ 900) (hz : pZd B len F G) (hs : ∀ N' p' m n, pEc μ m → pEr ν n → pOK B len p' m n → m.1 23 3 = nI N' → n.1 4 276 = nI N' → N' ≤ p' → ∃ m' n', F m = some m' ∧ G n = some n' ∧ pSt2 B len sh lo hi N' p' m n [b] 0 D2 0 m' n') (h : pSt2 B len sh lo hi N p μ ν T e D k0 μ1 ν1) (h3 : D ≤ D3) (h4 : T.length + D2 ≤ D3) : ∃ μ2 ν2, F μ1 = some μ2 ∧ G ν1 = some ν2 ∧ pSt2 B len sh lo hi N p μ ν (b :: T) e D3 k0 μ2 ν2 := by
  obtain ⟨hc, hr, h⟩ := h
  have stop : pZs B len μ1 ν1 → ∃ μ2 ν2, F μ1 = some μ2 ∧ G ν1 = some ν2 ∧ pSt2 B len sh lo hi N p μ ν (b :: T) e D3 k0 μ2 ν2 := fun z => by
    obtain ⟨μ2, ν2, y1, y2, y3, y4, y5⟩ := hz μ1 ν1 z
    exact ⟨μ2, ν2, y1, y2, pEcT hc y4, pErT hr (pEr_Z y5), Or.inr (Or.inr y3)⟩
  rcases h with ⟨p1, C, q0, q1, q2, q3, q4⟩ | ⟨p1, k, q1, q2, q3, q4⟩ | q
  · obtain ⟨μ2, ν2, y1, y2, y3, y4, y5⟩ := hs (N + C.length) p1 μ1 ν1 hc hr q2 q4.1 q4.2.1 (by omega)
    refine ⟨μ2, ν2, y1, y2, pEcT hc y3, pErT hr y4, ?_⟩
    rcases y5 with ⟨p2, C2, r0, r1, r2, r3, r4⟩ | ⟨p2, k, r1, r2, r3, r4⟩ | r
    · exact Or.inl ⟨p2, C ++ C2, by rw [List.length_append]; omega, by rw [List.length_append]; omega, r2, pEx_app q3 r3 h3 h4, pAp_T q4 r4⟩
    · exact Or.inr (Or.inl ⟨p2, C.length + k, by omega, r2, by rw [r3, Nat.add_assoc], by rw [r4, Nat.add_assoc]⟩)
    · exact Or.inr (Or.inr r)
  · have := q2.2.2.1
    exact stop ⟨Or.inl ⟨p1, q2⟩, N + k, by omega, q3⟩
  · exact stop ⟨Or.inr q.1, q.2⟩
/-- a code is laid down -/
theorem ps_code {B : Nat → Nat} {len sh lo hi N p e D k0 : Nat} {T T' : List Bool} {c : Int32} {μ ν μ1 ν1 : zz_Mem} (hN : N ≤ p) (hl : len ≤ 900) (hx : ∀ bb s rest, pe_wf lo hi bb rest (T' ++ s) → pe_wf lo hi bb (c :: rest) (T ++ s)) (h : pSt2 B len sh lo hi N p μ ν T (e + 1) D k0 μ1 ν1) : ∃ μ2 ν2, f_X3_add (pe_cm sh c) μ1 = some μ2 ∧ f_X12_codes c ν1 = some ν2 ∧ pSt2 B len sh lo hi N p μ ν T' e D (k0 + 1) μ2 ν2 := by
  obtain ⟨hc, hr, h⟩ := h
  have l900 : (900 : Int32) = nI 900 := rfl
  have l277 : (277 : Int32) = nI 277 := rfl
  -- both add where the reference has not failed
  have both : ∀ K, K < 900 → μ1.1 23 3 = nI K → ν1.1 4 276 = nI K → ν1.1 0 11 = 0 → f_X3_add (pe_cm sh c) μ1 = some (zz_setI (zz_setI μ1 24 K (pe_cm sh c)) 23 3 (nI (K + 1))) ∧ f_X12_codes c ν1 = some (zz_setI (zz_setI ν1 4 (277 + K) c) 4 276 (nI (K + 1))) := fun K hK e1 e2 e3 => by
    unfold f_X3_add f_X12_codes
    constructor
    · rw [e1, l900, if_neg (nI_ge (by omega) (by omega)), pq_ixE (by omega) (by decide), nI_clamp (by omega), pq_letM, pz_In _ _ _ (show (23 : Nat) ≠ 24 by decide), e1, nI_1, pq_letM]
    · rw [if_pos e3, e2, l277, nI_add, pq_ixE (by omega) (by decide), nI_clamp (by omega), pq_letM, qx_isN (by omega), e2, nI_1, pq_letM]
  have fc : ∀ K, pEc μ1 (zz_setI (zz_setI μ1 24 K (pe_cm sh c)) 23 3 (nI (K + 1))) := fun K => ⟨pq_frI (pq_frI (pq_fr0 μ1) _ _ (by simp)) _ _ (by simp), rfl, rfl, rfl, fun j hj => by rw [qx_isN hj, pz_In _ _ _ (by decide)], fun z => ⟨z, rfl⟩⟩
  have fr : ∀ K, pEr ν1 (zz_setI (zz_setI ν1 4 (277 + K) c) 4 276 (nI (K + 1))) := fun K => ⟨pq_frI (pq_frI (pq_fr0 ν1) _ _ (by simp)) _ _ (by simp), rfl, fun j _ => rfl, fun j hj => by rw [qx_isN (by omega), qx_isN (by omega)]⟩
  rcases h with ⟨p1, C, q0, q1, q2, q3, q4⟩ | ⟨p1, k, q1, q2, q3, q4⟩ | q
  · have hp1 := q2.2.2.1
    obtain ⟨b1, b2⟩ := both (N + C.length) (by omega) q4.1 q4.2.1 q2.2.2.2.2.2.2.2.2.2.2.2.1
    refine ⟨_, _, b1, b2, pEcT hc (fc _), pErT hr (fr _), Or.inl ⟨p1, C ++ [c], by rw [List.length_append, List.length_singleton]; omega, by rw [List.length_append, List.length_singleton]; omega, ?_, pEx_code q3 hx, pAp_T q4 ?_⟩⟩
    · obtain ⟨o1, o2, o3⟩ := q2
      exact ⟨pTxc_E o1 (fc _), pTxr_E o2 (fr _), o3⟩
    · refine ⟨qx_isE, qx_isE, fun j hj => ⟨?_, ?_⟩, fun i hi => ?_⟩
      · rw [pz_In _ _ _ (by decide), qx_isN (by omega)]
      · rw [qx_isN (by omega), qx_isN (by omega)]
      · obtain rfl : i = 0 := by rw [List.length_singleton] at hi; omega
        refine ⟨?_, ?_⟩
        · rw [qx_isN (by omega)]; exact qx_isE
        · rw [pz_In _ _ _ (by decide)]; exact qx_isE
  · have hp1 := q2.2.2.1
    obtain ⟨b1, b2⟩ := both (N + k) (by omega) q3 q4 q2.2.2.2.2.2
    refine ⟨_, _, b1, b2, pEcT hc (fc _), pErT hr (fr _), Or.inr (Or.inl ⟨p1, k + 1, by omega, ?_, qx_isE, qx_isE⟩)⟩
    obtain ⟨⟨o1, o2⟩, o3, o4⟩ := q2
    exact ⟨⟨pTxc_E o1 (fc _), o2⟩, pTxr_E o3 (fr _), o4⟩
  · obtain ⟨⟨w, p1, f⟩, n⟩ := q
    obtain ⟨μ2, y1, y2, y3⟩ := sc_add (⟨f.1, n⟩ : pSc B len w p1 μ1) (pe_cm sh c)
    have hx' : pFx ν1 := by unfold pFx; rw [f.2.1]; exact pr_n0 f.1.2.2.2.1
    exact ⟨μ2, ν1, y1, fx_codes hx' c, pEcT hc y3, hr, Or.inr (Or.inr ⟨⟨w, p1, y2.1, f.2⟩, y2.2⟩)⟩
theorem ps_less {B : Nat → Nat} {len sh lo hi N p e e' D D' k0 k0' : Nat} {T : List Bool} {μ ν μ1 ν1 : zz_Mem} (h : pSt2 B len sh lo hi N p μ ν T e D k0 μ1 ν1) (he : e' ≤ e) (hD : D ≤ D') (hk : k0' ≤ k0) : pSt2 B len sh lo hi N p μ ν T e' D' k0' μ1 ν1 := by
  obtain ⟨hc, hr, h⟩ := h
  refine ⟨hc, hr, ?_⟩
  rcases h with ⟨p1, C, q0, q1, q2, q3, q4⟩ | ⟨p1, k, q1, q2, q3, q4⟩ | q
  · exact Or.inl ⟨p1, C, by omega, by omega, q2, pEx_mono q3 hD, q4⟩
  · exact Or.inr (Or.inl ⟨p1, k, by omega, q2, q3, q4⟩)
  · exact Or.inr (Or.inr q)
/-- a token that must stand there -/
theorem ps_expect {B : Nat → Nat} {len sh lo hi N p e D k0 : Nat} {T : List Bool} {μ ν μ1 ν1 : zz_Mem} {F : zz_Mem → Option zz_Mem} {t : Nat} (hN : N ≤ p) (hl : len ≤ 900) (ht : t < 44) (ht1 : t ≠ 31) (ht2 : t ≠ 30) (hO : ∀ p1 m n, pOK B len p1 m n → F m = if pkK B len p1 = t then f_X7_next m else f_X7_fail 2 m) (hS : ∀ w p m, pSc B len w p m → pSd B len w p (F m) m) (h : pSt2 B len sh lo hi N p μ ν T e D k0 μ1 ν1) : ∃ μ2 ν2, F μ1 = some μ2 ∧ (∀ K : zz_Mem → Option zz_Mem, (zz_bnd (f_X12_eats (nI t) ν1) fun r m => if r = 0 then zz_bndR (f_X12_fails 2 m) K else K m) = K ν2) ∧ pSt2 B len sh lo hi N p μ ν T e D k0 μ2 ν2 := by
  obtain ⟨hc, hr, h⟩ := id h
  rcases h with ⟨p1, C, q0, q1, q2, q3, q4⟩ | ⟨p1, k, q1, q2, q3, q4⟩ | q
  · have hp1 := q2.2.2.1
    have e1 := hO p1 μ1 ν1 q2
    have e2 := pr_isO q2 ht
    by_cases c : pkK B len p1 = t
    · obtain ⟨μ2, ν2, y1, y2, y3⟩ := ps_next hc hr q0 q1 q2 q3 q4 (by omega)
      refine ⟨μ2, ν2, by rw [e1, if_pos c, y1], fun K => ?_, ps_less y3 (by omega) (Nat.le_refl _) (Nat.le_refl _)⟩
      unfold f_X12_eats
      rw [e2, decide_eq_true c, pq_bndS, if_neg (show ¬ pd_b true = 0 by decide), y2, pq_bndS, pq_bnd2, if_neg (by decide)]
    · obtain ⟨μ2, ν2, y1, y2, y3, -⟩ := ps_fail (T := T) (e := e) (D := D) (k0 := k0) (p := p) (lo := lo) (hi := hi) (w := 2) hc hr (by omega) q2 q4 (by omega)
      have y1' : f_X7_fail 2 μ1 = some μ2 := y1
      have y2' : f_X12_fails 2 ν1 = some ν2 := y2
      refine ⟨μ2, ν2, by rw [e1, if_neg c, y1'], fun K => ?_, y3⟩
      unfold f_X12_eats
      rw [e2, decide_eq_false c, pq_bndS, if_pos (show pd_b false = 0 from rfl), pq_bnd2, if_pos rfl, y2', pq_bndS]
  · have hp1 := q2.2.2.1
    obtain ⟨μ2, y1, y2, y3⟩ := hS 1 p1 μ1 ⟨q2.1, N + k, by omega, q3⟩
    obtain ⟨ν2, z1, z2, z3, z4⟩ := pr_failB 2 q2
    have z1' : f_X12_fails 2 ν1 = some ν2 := z1
    refine ⟨μ2, ν2, y1, fun K => ?_, pEcT hc y3, pErT hr (pEr_Z z2), Or.inr (Or.inr ⟨⟨1, p1, y2.1, z3, z4⟩, y2.2⟩)⟩
    unfold f_X12_eats
    rw [pr_isB q2 ht ht1, pq_bndS, if_pos rfl, pq_bnd2, if_pos rfl, z1', pq_bndS]
  · obtain ⟨⟨w, p1, f⟩, n⟩ := q
    obtain ⟨μ2, y1, y2, y3⟩ := hS w p1 μ1 ⟨f.1, n⟩
    have hx' : pFx ν1 := by unfold pFx; rw [f.2.1]; exact pr_n0 f.1.2.2.2.1
    refine ⟨μ2, ν1, y1, fun K => ?_, pEcT hc y3, hr, Or.inr (Or.inr ⟨⟨w, p1, y2.1, f.2⟩, y2.2⟩)⟩
    rw [fx_eats hx', pq_bnd2, if_pos rfl, fx_fails hx', pq_bndS]
theorem po_takeWord {B : Nat → Nat} {len w : Nat} (hw : w < 29) (hw0 : 0 < w) : (∀ p1 m n, pOK B len p1 m n → f_X7_takeWord w m = if pkK B len p1 = pWk w then f_X7_next m else f_X7_fail 2 m) := fun p1 m n h => by
  unfold f_X7_takeWord
  rw [pc_isW h hw hw0, pq_bndS, pu_bS, pu_bS]
  by_cases c : pkK B len p1 = pWk w
  · rw [decide_eq_true c, if_neg (show ¬ pd_b true = 0 by decide), if_pos c]
  · rw [decide_eq_false c, if_pos (show pd_b false = 0 from rfl), if_neg c]
theorem pTk_s : ∀ t, t < 44 → t ≠ 31 → ∀ i, i < 12 → (pTk t = pSg i ↔ t = 32 + i) ∧ pTk t < 256 ∧ pSg i < 256 := by decide +kernel
theorem po_sign {B : Nat → Nat} {len p1 : Nat} {m n : zz_Mem} (h : pOK B len p1 m n) {i : Nat} (hi : i < 12) : m.1 30 4 = nI (pSg i) ↔ pkK B len p1 = 32 + i := by
  obtain ⟨h1, h2, hp, h31, h3, h4, -⟩ := h
  have k5 := (pkE_b (B := B) hp (fun j hj => (h1.2.1 j hj).1)).2.2.2.2
  obtain ⟨a, b, c⟩ := pTk_s _ k5 h31 i hi
  rw [h4, nI_eq (by omega) (by omega)]
  exact a
theorem po_takeSign {B : Nat → Nat} {len i : Nat} (hi : i < 12) : (∀ p1 m n, pOK B len p1 m n → f_X7_takeSign (nI (pSg i)) m = if pkK B len p1 = 32 + i then f_X7_next m else f_X7_fail 2 m) := fun p1 m n h => by
  unfold f_X7_takeSign
  rw [pu_bS, pu_bS]
  by_cases c : pkK B len p1 = 32 + i
  · rw [if_pos ((po_sign h hi).mpr c), if_pos c]
  · rw [if_neg (fun z => c ((po_sign h hi).mp z)), if_neg c]
