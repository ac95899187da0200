/-! ===== 62: the class solves ===== -/
theorem lI_ltT {a b : Int} (h : a < b) (ha : -9223372036854775808 ≤ a) (hb : b < 9223372036854775808) : lI a < lI b := (lI_lt ha (by omega) (by omega) hb).mpr h
theorem lI_ltF {a b : Int} (h : b ≤ a) (hb : -9223372036854775808 ≤ b) (ha : a < 9223372036854775808) : ¬ lI a < lI b := fun z => by
  have := (lI_lt (by omega) ha hb (by omega)).mp z
  omega
theorem lI_leT {a b : Int} (h : a ≤ b) (ha : -9223372036854775808 ≤ a) (hb : b < 9223372036854775808) : lI a ≤ lI b := (lI_le ha (by omega) (by omega) hb).mpr h
theorem lI_leF {a b : Int} (h : b < a) (hb : -9223372036854775808 ≤ b) (ha : a < 9223372036854775808) : ¬ lI a ≤ lI b := fun z => by
  have := (lI_le (by omega) ha hb (by omega)).mp z
  omega
def pt_ms (A sp f : Int) (du : Nat → Int) (dy : Nat → Nat) : Nat → Int
  | 0 => 0
  | n + 1 => pt_ms A sp f du dy n + du n * (A + (f - A) * (dy n : Int) / sp)
def pt_S (m : zz_Mem) (o : Nat) (own lim A : Int) (sp n : Nat) (du : Nat → Int) (dy : Nat → Nat) : Prop := m.2.1 o 7 = lI own ∧ m.2.1 o 8 = lI lim ∧ m.2.1 o 9 = lI A ∧ m.1 o 10 = nI sp ∧ m.1 o 6 = nI n ∧ ∀ j, j < n → m.2.1 (o + 3) j = lI (du j) ∧ m.1 (o + 4) j = nI (dy j)
theorem pt_msC {A sp f : Int} {du du' : Nat → Int} {dy dy' : Nat → Nat} : ∀ n, (∀ j, j < n → du j = du' j ∧ dy j = dy' j) → pt_ms A sp f du dy n = pt_ms A sp f du' dy' n := by
  intro n
  induction n with
  | zero => intro _; rfl
  | succ n ih => intro h; rw [pt_ms, pt_ms, ih (fun j hj => h j (by omega)), (h n (by omega)).1, (h n (by omega)).2]
/-- what is asked so far is V; W bounds what was taken in, N how often -/
def pt_inv (m : zz_Mem) (o : Nat) (A : Int) (sp : Nat) (V : Int → Int) (W : Int) (N : Nat) : Prop := ∃ own lim n du dy, pt_S m o own lim A sp n du dy ∧ (∀ f, own * f + pt_ms A (sp : Int) f du dy n - lim = V f) ∧ 3600000 ≤ own ∧ own ≤ 4627971 + W ∧ -(W * 1000000000) ≤ lim ∧ lim ≤ 3600000003599999 + W * 1000000000 ∧ n ≤ N ∧ (∀ j, j < n → dy j < sp) ∧ (∀ f, 0 ≤ f → f ≤ 1000000000 → -(W * 1000000000) ≤ pt_ms A (sp : Int) f du dy n ∧ pt_ms A (sp : Int) f du dy n ≤ W * 1000000000)
theorem pt_mulB {x y W : Int} (hx : -W ≤ x) (hx2 : x ≤ W) (hy : 0 ≤ y) (hy2 : y ≤ 1000000000) : -(W * 1000000000) ≤ x * y ∧ x * y ≤ W * 1000000000 := by
  have hW : 0 ≤ W := by omega
  rcases Int.le_total 0 x with h | h
  · have h1 : 0 ≤ x * y := Int.mul_nonneg h hy
    have h2 : x * y ≤ W * 1000000000 := Int.mul_le_mul hx2 hy2 hy hW
    omega
  · have h1 : 0 ≤ (-x) * y := Int.mul_nonneg (by omega) hy
    have h2 : (-x) * y ≤ W * 1000000000 := Int.mul_le_mul (by omega) hy2 hy hW
    rw [Int.neg_mul] at h1 h2
    omega
/-- what is known of a curve of the class while pillar k is solved -/
def pt_K (m : zz_Mem) (o : Nat) (a : Nat → Int32) (k : Nat) (F : Nat → Int) : Prop := pc_plan m 2 a ∧ pc_sched m a ∧ (∀ j, j < k → m.1 (o + 2) j = iI (F j)) ∧ ∃ G : Nat → Int, ∀ j, j ≤ 8 → 0 ≤ G j ∧ G j ≤ 1000000000 ∧ m.1 (o + 2) j = iI (G j)
theorem pt_KF {L : List Nat} {m m' : zz_Mem} {o : Nat} {a : Nat → Int32} {k : Nat} {F : Nat → Int} (h : pt_K m o a k F) (f : pq_fr L m m') (hL : ∀ j, j ∈ L → j = o ∨ j = o + 3 ∨ j = o + 4) (ho : o = 83 ∨ o = 88) : pt_K m' o a k F := by
  obtain ⟨h1, h2, h3, h4⟩ := h
  refine ⟨pc_planF h1 f (fun j hj z => by have := hL _ z; omega), pc_schedF h2 f (fun j a1 a2 z => by have := hL _ z; omega), ?_, ?_⟩
  · rw [(f (o + 2) (fun z => by have := hL _ z; omega)).1]; exact h3
  · rw [(f (o + 2) (fun z => by have := hL _ z; omega)).1]; exact h4
theorem pt_GF {x y : Int} (hx : 0 ≤ x) (hx2 : x ≤ 1000000000) (hy : 0 ≤ y) (hy2 : y ≤ 1000000000) (h : iI x = iI y) : x = y := by
  rwa [iI_eq (by omega) (by omega) (by omega) (by omega)] at h
/-- the class's factor at a day that isn't behind the pillar ahead -/
theorem pt_fa {a : Nat → Int32} (hv : pv_D a) {m : zz_Mem} {o k : Nat} {F : Nat → Int} (hk : k + 1 ≤ pL a) (hF : pa_F F k) (hK : pt_K m o a (k + 1) F) {d : Nat} (hd : d ≤ pDay a k) (f : Int) : f_X1_factorAt o m (nI d) = some (iI (pfa a (k + 1) (va_up F (k + 1) f) d)) := by
  obtain ⟨h1, h2, h3, G, h4⟩ := hK
  have hD := pD_D hv
  have hb := hD.2.2.1 k (by omega)
  have h8 := hD.2.1
  have e := pa_cFactorAt (o := o) (m := m) (F := G) (cv := pCv a) (d := d) hD (fun j hj => ⟨(h4 j (by omega)).1, (h4 j (by omega)).2.1⟩) (by omega) h2.2.1.1 h2.2.1.2.1 (fun j hj => (h4 j (by omega)).2.2) (h1.2.1.trans (pCv_eq hv))
  rw [e]
  have e1 : pa_fa (pCv a) (pDay a) (pL a) G d = pa_fa (pCv a) (pDay a) k F d := pa_trunc hD (by omega) hd (fun j hj => pt_GF (h4 j (by omega)).1 (h4 j (by omega)).2.1 (hF j hj).1 (hF j hj).2 (by rw [← (h4 j (by omega)).2.2]; exact h3 j (by omega)))
  have e2 : pfa a (k + 1) (va_up F (k + 1) f) d = pa_fa (pCv a) (pDay a) k F d := pa_trunc (pD_Dk hv hk) (by omega) hd (fun j hj => pf_upn (by omega))
  rw [e1, e2]
theorem pt_take {a : Nat → Int32} (hv : pv_D a) {m : zz_Mem} {o k : Nat} (ho : o = 83 ∨ o = 88) {F : Nat → Int} (hk : k + 1 ≤ pL a) (hF : pa_F F k) (hK : pt_K m o a (k + 1) F) {V : Int → Int} {W : Int} {N : Nat} (hI : pt_inv m o (F k) (pDay a (k + 1) - pDay a k) V W N) (hN : N < 34) {due w : Int} (hw1 : -w ≤ due) (hw2 : due ≤ w) (hwB : w ≤ 4000000) {d : Nat} (hd : d < 20000) (hs : 0 ≤ due ∨ d < pDay a (k + 1)) : ∃ m', f_X1_takeIn o (lI due) (nI d) (nI (k + 1)) m = some m' ∧ pq_fr [o, o + 3, o + 4] m m' ∧ pt_inv m' o (F k) (pDay a (k + 1) - pDay a k) (fun f => V f + due * pfa a (k + 1) (va_up F (k + 1) f) d) (W + w) (N + 1) := by
  have hD := pD_D hv
  have hDk := pD_Dk hv hk
  have h8 := hD.2.1
  have d0 := hD.2.2.1 k (by omega)
  have d1 := hD.2.2.1 (k + 1) hk
  have d2 := hD.2.2.2 k (by omega)
  obtain ⟨own, lim, n, du, dy, ⟨s7, s8, s9, s10, s6, sm⟩, hV, b1, b2, b3, b4, b5, b6, b7⟩ := hI
  have r0 : m.1 79 k = nI (pDay a k) := hK.2.1.2.1.2.1 k (by omega)
  have r1 : m.1 79 (k + 1) = nI (pDay a (k + 1)) := hK.2.1.2.1.2.1 (k + 1) hk
  have hA := hF k (Nat.le_refl _)
  have hcv : m.1 2 1 = if pCv a then 1 else 0 := hK.1.2.1.trans (pCv_eq hv)
  unfold f_X1_takeIn
  rw [nI_pred, pq_ixE (by omega) (by decide), nI_clamp (by omega), r0, pq_letI, pq_ixE (by omega) (by decide), nI_clamp (by omega), r1]
  by_cases c1 : d < pDay a (k + 1)
  · rw [if_pos (nI_lt c1 (by omega))]
    by_cases c2 : pDay a k < d
    · rw [if_pos (nI_lt c2 (by omega)), hcv]
      have hmid := fun f => pa_mid (cv := pCv a) (day := pDay a) (k := k) (d := d) (F := va_up F (k + 1) f) hDk.1 c2 c1
      cases hc : pCv a with
      | true =>
        rw [if_pos (by rfl), pq_letM, s8, s9, lI_mul, lI_sub]
        have hfa : ∀ f, pfa a (k + 1) (va_up F (k + 1) f) d = F k := fun f => by
          unfold pfa; rw [hmid f, if_pos hc, pf_upn (by omega)]
        have hb := pt_mulB hw1 hw2 hA.1 hA.2
        refine ⟨_, rfl, pq_frJ (pq_fr0 m) _ _ (by simp), own, lim - due * F k, n, du, dy, ⟨?_, qx_jsE, ?_, s10, s6, ?_⟩, fun f => ?_, b1, by omega, by omega, by omega, by omega, b6, fun f h1 h2 => by have := b7 f h1 h2; omega⟩
        · rw [qx_jsN (by decide)]; exact s7
        · rw [qx_jsN (by decide)]; exact s9
        · rw [pz_Jn _ _ _ (by omega)]; exact sm
        · show _ = V f + _
          rw [hfa f, ← hV f]; omega
      | false =>
        have l34 : (34 : Int32) = nI 34 := rfl
        rw [if_neg (by decide), l34, s6, if_neg (nI_ge (by omega) (by omega)), pq_ixE (by omega) (by decide), nI_clamp (by omega), pq_letM]
        have t6 : (zz_setJ m (o + 3) n (lI due)).1 o 6 = nI n := s6
        rw [t6, pq_ixE (by omega) (by decide), nI_clamp (by omega), pk_sub (by omega), pq_letM]
        have t6' : (zz_setI (zz_setJ m (o + 3) n (lI due)) (o + 4) n (nI (d - pDay a k))).1 o 6 = nI n := by rw [pz_In _ _ _ (by omega)]; exact s6
        rw [t6', nI_1, pq_letM]
        have hsp : ((pDay a (k + 1) - pDay a k : Nat) : Int) = (pDay a (k + 1) : Int) - (pDay a k : Int) := by omega
        have hdd : ((d - pDay a k : Nat) : Int) = (d : Int) - (pDay a k : Int) := by omega
        have hfa : ∀ f, pfa a (k + 1) (va_up F (k + 1) f) d = F k + (f - F k) * ((d - pDay a k : Nat) : Int) / ((pDay a (k + 1) - pDay a k : Nat) : Int) := fun f => by
          unfold pfa; rw [hmid f, if_neg (by rw [hc]; decide), pf_upn (by omega), pf_up, hsp, hdd]
        have hms : ∀ f, pt_ms (F k) ((pDay a (k + 1) - pDay a k : Nat) : Int) f (va_up du n due) (va_up dy n (d - pDay a k)) (n + 1) = pt_ms (F k) ((pDay a (k + 1) - pDay a k : Nat) : Int) f du dy n + due * pfa a (k + 1) (va_up F (k + 1) f) d := fun f => by
          rw [pt_ms, pt_msC (du := va_up du n due) (du' := du) (dy := va_up dy n (d - pDay a k)) (dy' := dy) n (fun j hj => ⟨if_neg (by omega), if_neg (by omega)⟩), hfa f, show va_up du n due n = due from if_pos rfl, show va_up dy n (d - pDay a k) n = d - pDay a k from if_pos rfl]
        refine ⟨_, rfl, pq_frI (pq_frI (pq_frJ (pq_fr0 m) _ _ (by simp)) _ _ (by simp)) _ _ (by simp), own, lim, n + 1, va_up du n due, va_up dy n (d - pDay a k), ⟨?_, ?_, ?_, ?_, qx_isE, fun j hj => ?_⟩, fun f => ?_, b1, by omega, by omega, by omega, by omega, fun j hj => ?_, fun f h1 h2 => ?_⟩
        · show (zz_setJ m (o + 3) n (lI due)).2.1 o 7 = _; rw [pz_Jn _ _ _ (by omega)]; exact s7
        · show (zz_setJ m (o + 3) n (lI due)).2.1 o 8 = _; rw [pz_Jn _ _ _ (by omega)]; exact s8
        · show (zz_setJ m (o + 3) n (lI due)).2.1 o 9 = _; rw [pz_Jn _ _ _ (by omega)]; exact s9
        · rw [qx_isN (by decide), pz_In _ _ _ (by omega)]; exact s10
        · rw [pz_In _ _ _ (by omega)]
          show (zz_setJ m (o + 3) n (lI due)).2.1 (o + 3) j = _ ∧ _
          by_cases c : j = n
          · rw [c, qx_jsE, qx_isE, show va_up du n due n = due from if_pos rfl, show va_up dy n (d - pDay a k) n = d - pDay a k from if_pos rfl]
            exact ⟨rfl, rfl⟩
          · rw [qx_jsN c, qx_isN c, show va_up du n due j = du j from if_neg c, show va_up dy n (d - pDay a k) j = dy j from if_neg c]
            exact sm j (by omega)
        · show _ = V f + _
          rw [hms f, ← hV f]; omega
        · by_cases c : j = n
          · rw [c, show va_up dy n (d - pDay a k) n = d - pDay a k from if_pos rfl]; omega
          · rw [show va_up dy n (d - pDay a k) j = dy j from if_neg c]; exact b6 j (by omega)
        · rw [hms f]
          have h3 := b7 f h1 h2
          have h4 : 0 ≤ pfa a (k + 1) (va_up F (k + 1) f) d ∧ pfa a (k + 1) (va_up F (k + 1) f) d ≤ 1000000000 := pa_faB hDk (fun j hj => by
            by_cases c : j = k + 1
            · rw [c, pf_up]; omega
            · rw [pf_upn c]; exact hF j (by omega))
          have h5 := pt_mulB hw1 hw2 h4.1 h4.2
          omega
    · rw [if_neg (nI_nlt (by omega) (by omega))]
      have hfa := fun f => pt_fa hv hk hF hK (show d ≤ pDay a k by omega) f
      have hB : 0 ≤ pa_fa (pCv a) (pDay a) k F d ∧ pa_fa (pCv a) (pDay a) k F d ≤ 1000000000 := pa_faB (pD_Dk hv (by omega)) hF
      have e2 : ∀ f, pfa a (k + 1) (va_up F (k + 1) f) d = pa_fa (pCv a) (pDay a) k F d := fun f => pa_trunc hDk (by omega) (by omega) (fun j hj => pf_upn (by omega))
      rw [hfa 0, e2 0, pq_bndS, pq_letM, s8, iI_l (by omega) (by omega), lI_mul, lI_sub]
      have hb := pt_mulB hw1 hw2 hB.1 hB.2
      refine ⟨_, rfl, pq_frJ (pq_fr0 m) _ _ (by simp), own, lim - due * pa_fa (pCv a) (pDay a) k F d, n, du, dy, ⟨?_, qx_jsE, ?_, s10, s6, ?_⟩, fun f => ?_, b1, by omega, by omega, by omega, by omega, b6, fun f h1 h2 => by have := b7 f h1 h2; omega⟩
      · rw [qx_jsN (by decide)]; exact s7
      · rw [qx_jsN (by decide)]; exact s9
      · rw [pz_Jn _ _ _ (by omega)]; exact sm
      · show _ = V f + _
        rw [e2 f, ← hV f]; omega
  · rw [if_neg (nI_nlt (by omega) (by omega)), pq_letM, s7, lI_add]
    have hfa : ∀ f, pfa a (k + 1) (va_up F (k + 1) f) d = f := fun f => by unfold pfa; rw [pa_last (by omega) (by omega), pf_up]
    refine ⟨_, rfl, pq_frJ (pq_fr0 m) _ _ (by simp), own + due, lim, n, du, dy, ⟨qx_jsE, ?_, ?_, s10, s6, ?_⟩, fun f => ?_, by omega, by omega, by omega, by omega, by omega, b6, fun f h1 h2 => by have := b7 f h1 h2; omega⟩
    · rw [qx_jsN (by decide)]; exact s8
    · rw [qx_jsN (by decide)]; exact s9
    · rw [pz_Jn _ _ _ (by omega)]; exact sm
    · show _ = V f + _
      rw [hfa f, ← hV f, Int.add_mul]; omega
/-- what holds, holds -/
theorem pt_holds {m : zz_Mem} {o : Nat} {A : Int} (hA : 0 ≤ A) (hA2 : A ≤ 1000000000) {sp : Nat} (hsp : 0 < sp) (hsp2 : sp < 20000) {V : Int → Int} {W : Int} {N : Nat} (hI : pt_inv m o A sp V W N) (hW : W ≤ 8000000) (hN : N ≤ 34) {f : Int} (hf : 0 ≤ f) (hf2 : f ≤ 1000000000) : (V f ≤ 0 ∧ f_X1_holds o m (lI f) = some 1) ∨ (¬ V f ≤ 0 ∧ f_X1_holds o m (lI f) = some 0) := by
  obtain ⟨own, lim, n, du, dy, ⟨s7, s8, s9, s10, s6, sm⟩, hV, b1, b2, b3, b4, b5, b6, b7⟩ := hI
  have hfu : zz_fuel = 5000 := rfl
  have loop : ∀ (r j fuel : Nat), j + r = n → r < fuel → f_X1_holds_10 o m fuel (lI f) (lI (own * f + pt_ms A (sp : Int) f du dy j)) (nI j) = f_X1_holds_71 o m (lI (own * f + pt_ms A (sp : Int) f du dy n)) := by
    intro r
    induction r with
    | zero =>
      intro j fuel h1 h2
      obtain ⟨fu, rfl⟩ : ∃ n, fuel = n + 1 := ⟨fuel - 1, by omega⟩
      have e : j = n := by omega
      subst e
      rw [f_X1_holds_10, s6, if_pos (Int32.le_refl _)]
    | succ r ih =>
      intro j fuel h1 h2
      obtain ⟨fu, rfl⟩ : ∃ n, fuel = n + 1 := ⟨fuel - 1, by omega⟩
      have hdy := b6 j (by omega)
      have hpm := pa_mul (x := f - A) (w := (dy j : Int)) (s := 0) (by omega) (by omega) (by omega) (by omega)
      rw [f_X1_holds_10, s6, if_neg (nI_ge (by omega) (by omega)), s10, if_neg (nI_nle hsp (by omega)), pq_ixE (by omega) (by decide), pq_ixE (by omega) (by decide), nI_clamp (by omega), s9, (sm j (by omega)).1, (sm j (by omega)).2, lI_sub, qx_nl (by omega), qx_nl (by omega), lI_mul, qx_fD (by omega) (by omega) (by omega) (by omega), pq_bndS, pq_letJ, lI_add, lI_mul, lI_add, pq_letI, nI_1, Int.add_assoc]
      exact ih (j + 1) fu (by omega) (by omega)
  have h0 := loop n 0 zz_fuel (by omega) (by omega)
  have e0 : own * f + pt_ms A (sp : Int) f du dy 0 = own * f := by rw [pt_ms, Int.add_zero]
  rw [e0, nI_0] at h0
  have hb := b7 f hf hf2
  have hVf := hV f
  have ho1 : 0 ≤ own * f := Int.mul_nonneg (by omega) hf
  have ho2 : own * f ≤ 12627971 * 1000000000 := Int.mul_le_mul (by omega) hf2 hf (by decide)
  unfold f_X1_holds
  rw [s7, lI_mul, pq_letJ, h0]
  unfold f_X1_holds_71
  rw [s8]
  by_cases c : V f ≤ 0
  · exact Or.inl ⟨c, if_neg (lI_ltF (by omega) (by omega) (by omega))⟩
  · exact Or.inr ⟨c, if_pos (lI_ltT (by omega) (by omega) (by omega))⟩
theorem pt_inB (x : Int64) : ∃ y : Int, f_X1_inFactorBounds x = some (lI y) ∧ 0 ≤ y ∧ y ≤ 1000000000 ∧ (0 ≤ x.toInt → x.toInt ≤ 1000000000 → y = x.toInt) ∧ (x.toInt < 0 → y = 0) ∧ (1000000000 < x.toInt → y = 1000000000) := by
  have lu : (1000000000 : Int64) = lI 1000000000 := rfl
  have l0 : (0 : Int64) = lI 0 := rfl
  have bx1 := Int64.le_toInt x
  have bx2 := Int64.toInt_lt x
  have ex : x = lI x.toInt := (lI_of x).symm
  generalize hz : x.toInt = z at *
  unfold f_X1_inFactorBounds f_J9_min_f86c9 f_J9_max_f86c9
  rw [ex, lu, l0]
  by_cases c1 : z < 1000000000
  · rw [if_pos (lI_ltT c1 (by omega) (by omega)), pq_bndS]
    by_cases c2 : 0 < z
    · rw [if_pos (lI_ltT c2 (by omega) (by omega)), pq_bndS]
      exact ⟨z, rfl, by omega, by omega, fun _ _ => rfl, fun _ => by omega, fun _ => by omega⟩
    · rw [if_neg (lI_ltF (by omega) (by omega) (by omega)), pq_bndS]
      exact ⟨0, rfl, by omega, by omega, fun _ _ => by omega, fun _ => rfl, fun _ => by omega⟩
  · rw [if_neg (lI_ltF (by omega) (by omega) (by omega)), pq_bndS, if_pos (lI_ltT (by decide) (by decide) (by decide)), pq_bndS]
    exact ⟨1000000000, rfl, by omega, by omega, fun _ _ => by omega, fun _ => by omega, fun _ => rfl⟩
theorem pt_once {m : zz_Mem} {o : Nat} {A : Int} {sp : Nat} {V : Int → Int} {W : Int} {N : Nat} (hI : pt_inv m o A sp V W N) (hW : W ≤ 8000000) (hN : N ≤ 34) (h6 : m.1 o 6 = 0) : ∃ x : Int, f_X1_greatestAtOnce o m = some (lI x) ∧ 0 ≤ x ∧ x ≤ 1000000000 ∧ (x = 0 ∨ V x ≤ 0) ∧ (x = 1000000000 ∨ ¬ V (x + 1) ≤ 0) := by
  obtain ⟨own, lim, n, du, dy, ⟨s7, s8, s9, s10, s6, sm⟩, hV, b1, b2, b3, b4, b5, b6, b7⟩ := hI
  have n0 : n = 0 := by
    rw [s6] at h6
    have l0 : (0 : Int32) = nI 0 := rfl
    rw [l0, nI_eq (by omega) (by decide)] at h6
    exact h6
  subst n0
  have hV' : ∀ f, V f = own * f - lim := fun f => by rw [← hV f, pt_ms]; omega
  have l0 : (0 : Int64) = lI 0 := rfl
  unfold f_X1_greatestAtOnce
  rw [s7, s8, l0, if_neg (lI_leF (by omega) (by decide) (by omega)), qx_fD (by omega) (by omega) (by omega) (by omega), pq_bndS]
  have q1 := Int.mul_ediv_add_emod lim own
  have q2 := Int.emod_nonneg lim (show own ≠ 0 by omega)
  have q3 := Int.emod_lt_of_pos lim (show 0 < own by omega)
  have q4 : (lim / own).natAbs ≤ lim.natAbs := Int.natAbs_ediv_le_natAbs _ _
  generalize hq : lim / own = q at *
  obtain ⟨y, e1, y1, y2, y3, y4, y5⟩ := pt_inB (lI q)
  rw [lI_t (by omega) (by omega)] at y3 y4 y5
  rw [e1, pq_bndS]
  refine ⟨y, rfl, y1, y2, ?_, ?_⟩
  · rw [hV']
    by_cases c1 : q < 0
    · left; exact y4 c1
    · right
      by_cases c2 : 1000000000 < q
      · rw [y5 c2]
        have : own * 1000000000 ≤ own * q := Int.mul_le_mul_of_nonneg_left (by omega) (by omega)
        omega
      · rw [y3 (by omega) (by omega)]; omega
  · rw [hV']
    by_cases c1 : q < 0
    · right
      rw [y4 c1]
      have : own * q ≤ own * (-1) := Int.mul_le_mul_of_nonneg_left (by omega) (by omega)
      omega
    · by_cases c2 : 1000000000 < q
      · left; exact y5 c2
      · right
        rw [y3 (by omega) (by omega), Int.mul_add]; omega
theorem pt_guess {m : zz_Mem} {o : Nat} {n : Nat} (s6 : m.1 o 6 = nI n) (hn : n ≤ 34) : ∃ g : Int, f_X1_guess o m = some (lI g) ∧ 0 ≤ g ∧ g ≤ 1000000000 := by
  have hfu : zz_fuel = 5000 := rfl
  have fin : ∀ v1 v3 : Int64, ∃ g : Int, f_X1_guess_88 o m v1 v3 = some (lI g) ∧ 0 ≤ g ∧ g ≤ 1000000000 := by
    intro v1 v3
    unfold f_X1_guess_88
    by_cases c : v3 ≤ 0
    · rw [if_pos c]; exact ⟨0, rfl, by decide, by decide⟩
    · rw [if_neg c]
      have h0 : (0 : Int64).toInt = 0 := rfl
      rw [Int64.le_iff_toInt_le, h0] at c
      rw [pq_floorDiv (by omega), pq_bndS]
      obtain ⟨y, e1, y1, y2, -⟩ := pt_inB (lI (v1.toInt / v3.toInt))
      rw [e1, pq_bndS]
      exact ⟨y, rfl, y1, y2⟩
  have loop : ∀ (r j fuel : Nat) (v1 v3 : Int64), j + r = n → r < fuel → ∃ g : Int, f_X1_guess_25 o m fuel v1 v3 (nI j) = some (lI g) ∧ 0 ≤ g ∧ g ≤ 1000000000 := by
    intro r
    induction r with
    | zero =>
      intro j fuel v1 v3 h1 h2
      obtain ⟨fu, rfl⟩ : ∃ n, fuel = n + 1 := ⟨fuel - 1, by omega⟩
      rw [f_X1_guess_25, s6, if_pos (nI_le (by omega) (by omega))]
      exact fin v1 v3
    | succ r ih =>
      intro j fuel v1 v3 h1 h2
      obtain ⟨fu, rfl⟩ : ∃ n, fuel = n + 1 := ⟨fuel - 1, by omega⟩
      rw [f_X1_guess_25, s6, if_neg (nI_ge (by omega) (by omega)), pq_ixE (by omega) (by decide), pq_ixE (by omega) (by decide), pq_letJ, pq_ixE (by omega) (by decide), pq_ixE (by omega) (by decide), pq_letJ, pq_letI, nI_1]
      exact ih (j + 1) fu _ _ (by omega) (by omega)
  unfold f_X1_guess
  rw [pq_letJ, pq_letJ]
  have := loop n 0 zz_fuel (m.2.1 o 8 * (m.1 o 10).toInt64) (m.2.1 o 7 * (m.1 o 10).toInt64) (by omega) (by omega)
  rw [nI_0] at this
  exact this
section
variable {m : zz_Mem} {o : Nat} {P : Int → Prop}
def pt_H (m : zz_Mem) (o : Nat) (P : Int → Prop) : Prop := ∀ f, 0 ≤ f → f ≤ 1000000000 → (P f ∧ f_X1_holds o m (lI f) = some 1) ∨ (¬ P f ∧ f_X1_holds o m (lI f) = some 0)
theorem pt_half (hH : pt_H m o P) : ∀ (n k fuel : Nat) (lo hi : Int), n + k = 40 → n < fuel → 0 ≤ lo → lo < hi → hi ≤ 1000000001 → hi - lo ≤ 2 ^ n → (lo = 0 ∨ P lo) → (hi = 1000000001 ∨ ¬ P hi) → ∃ x, f_X1_greatestFrom_114 o m fuel (lI lo) (lI hi) (nI k) = some (lI x) ∧ 0 ≤ x ∧ x ≤ 1000000000 ∧ (x = 0 ∨ P x) ∧ (x = 1000000000 ∨ ¬ P (x + 1)) := by
  have l40 : (40 : Int32) = nI 40 := rfl
  have l1 : (1 : Int64) = lI 1 := rfl
  have l2 : (2 : Int64) = lI 2 := rfl
  have fin : ∀ lo hi : Int, 0 ≤ lo → hi = lo + 1 → hi ≤ 1000000001 → (lo = 0 ∨ P lo) → (hi = 1000000001 ∨ ¬ P hi) → ∃ x, some (lI lo) = some (lI x) ∧ 0 ≤ x ∧ x ≤ 1000000000 ∧ (x = 0 ∨ P x) ∧ (x = 1000000000 ∨ ¬ P (x + 1)) := by
    intro lo hi h1 h2 h3 h4 h5
    subst h2
    refine ⟨lo, rfl, h1, by omega, h4, ?_⟩
    rcases h5 with h | h
    · left; omega
    · exact Or.inr h
  intro n
  induction n with
  | zero =>
    intro k fuel lo hi h1 h2 h3 h4 h5 h6 h7 h8
    obtain ⟨fu, rfl⟩ : ∃ n, fuel = n + 1 := ⟨fuel - 1, by omega⟩
    rw [f_X1_greatestFrom_114, l40, if_pos (nI_le (by omega) (by omega))]
    exact fin lo hi h3 (by simp at h6; omega) h5 h7 h8
  | succ n ih =>
    intro k fuel lo hi h1 h2 h3 h4 h5 h6 h7 h8
    obtain ⟨fu, rfl⟩ : ∃ n, fuel = n + 1 := ⟨fuel - 1, by omega⟩
    rw [Int.pow_succ] at h6
    rw [f_X1_greatestFrom_114, l40, if_neg (nI_ge (by omega) (by omega)), l1, lI_add]
    by_cases c : hi ≤ lo + 1
    · rw [if_pos (lI_leT c (by omega) (by omega))]
      exact fin lo hi h3 (by omega) h5 h7 h8
    · rw [if_neg (lI_leF (by omega) (by omega) (by omega)), lI_add, l2, qx_dJ (by omega) (by omega) (by decide) (by decide), pq_letJ]
      rcases hH ((lo + hi) / 2) (by omega) (by omega) with ⟨p1, p2⟩ | ⟨p1, p2⟩
      · rw [p2, pq_bndS, if_neg (by decide), pq_letI, nI_1]
        exact ih (k + 1) fu _ hi (by omega) (by omega) (by omega) (by omega) h5 (by omega) (Or.inr p1) h8
      · rw [p2, pq_bndS, if_pos rfl, pq_letI, nI_1]
        exact ih (k + 1) fu lo _ (by omega) (by omega) h3 (by omega) (by omega) (by omega) h7 (Or.inr p1)
theorem pt_upw (hH : pt_H m o P) : ∀ (n fuel : Nat) (lo hi st : Int), n < fuel → 0 ≤ lo → lo < hi → hi ≤ 1000000001 → 1 ≤ st → st ≤ 4000000000 → 2000000000 < st * 2 ^ n → (hi = 1000000001 ∨ st ≤ hi) → (lo = 0 ∨ P lo) → ∃ x, f_X1_greatestFrom_58 o m fuel (lI lo) (lI hi) (lI st) = some (lI x) ∧ 0 ≤ x ∧ x ≤ 1000000000 ∧ (x = 0 ∨ P x) ∧ (x = 1000000000 ∨ ¬ P (x + 1)) := by
  have lU : (2000000000 : Int64) = lI 2000000000 := rfl
  have lu : (1000000000 : Int64) = lI 1000000000 := rfl
  have lu1 : (1000000001 : Int64) = lI 1000000001 := rfl
  have hfu : zz_fuel = 5000 := rfl
  have go : ∀ lo hi : Int, 0 ≤ lo → lo < hi → hi ≤ 1000000001 → (lo = 0 ∨ P lo) → (hi = 1000000001 ∨ ¬ P hi) → ∃ x, f_X1_greatestFrom_114 o m zz_fuel (lI lo) (lI hi) 0 = some (lI x) ∧ 0 ≤ x ∧ x ≤ 1000000000 ∧ (x = 0 ∨ P x) ∧ (x = 1000000000 ∨ ¬ P (x + 1)) := by
    intro lo hi h1 h2 h3 h4 h5
    have h40 : (2 : Int) ^ 40 = 1099511627776 := by decide
    have := pt_half hH 40 0 zz_fuel lo hi (by omega) (by omega) h1 h2 h3 (by rw [h40]; omega) h4 h5
    rw [nI_0] at this
    exact this
  intro n
  induction n with
  | zero =>
    intro fuel lo hi st hf h1 h2 h3 h4 h4' h5 h6 h7
    obtain ⟨fu, rfl⟩ : ∃ n, fuel = n + 1 := ⟨fuel - 1, by omega⟩
    rw [Int.pow_zero, Int.mul_one] at h5
    rw [f_X1_greatestFrom_58, lU, if_pos (lI_ltT (by omega) (by omega) (by omega))]
    exact go lo hi h1 h2 h3 h7 (Or.inl (by omega))
  | succ n ih =>
    intro fuel lo hi st hf h1 h2 h3 h4 h4' h5 h6 h7
    obtain ⟨fu, rfl⟩ : ∃ n, fuel = n + 1 := ⟨fuel - 1, by omega⟩
    rw [f_X1_greatestFrom_58, lU]
    by_cases c0 : 2000000000 < st
    · rw [if_pos (lI_ltT (by omega) (by omega) (by omega))]
      exact go lo hi h1 h2 h3 h7 (Or.inl (by omega))
    · rw [if_neg (lI_ltF (by omega) (by omega) (by omega)), lu]
      by_cases c1 : 1000000000 < hi
      · rw [if_pos (lI_ltT (by omega) (by omega) (by omega))]
        exact go lo hi h1 h2 h3 h7 (Or.inl (by omega))
      · rw [if_neg (lI_ltF (by omega) (by omega) (by omega))]
        rcases hH hi (by omega) (by omega) with ⟨p1, p2⟩ | ⟨p1, p2⟩
        · rw [p2, pq_bndS, if_neg (by decide), lI_add]
          have h5' : 2000000000 < (st + st) * 2 ^ n := by
            rw [Int.pow_succ] at h5
            have e : (st + st) * 2 ^ n = st * (2 ^ n * 2) := by rw [Int.add_mul, ← Int.mul_assoc]; omega
            rw [e]; exact h5
          unfold f_J9_min_f86c9
          rw [lu1]
          by_cases c2 : hi + st < 1000000001
          · rw [if_pos (lI_ltT c2 (by omega) (by omega)), pq_bndS, pq_letJ, lI_add]
            exact ih fu hi (hi + st) (st + st) (by omega) (by omega) (by omega) (by omega) (by omega) (by omega) h5' (Or.inr (by omega)) (Or.inr p1)
          · rw [if_neg (lI_ltF (by omega) (by omega) (by omega)), pq_bndS, pq_letJ, lI_add]
            exact ih fu hi 1000000001 (st + st) (by omega) (by omega) (by omega) (by omega) (by omega) (by omega) h5' (Or.inl rfl) (Or.inr p1)
        · rw [p2, pq_bndS, if_pos rfl]
          exact go lo hi h1 h2 h3 h7 (Or.inr p1)
theorem pt_down (hH : pt_H m o P) {g : Int} (hg : 0 ≤ g) (hg2 : g ≤ 1000000000) : ∀ (n fuel : Nat) (lo hi st : Int), n < fuel → 0 ≤ lo → lo < hi → hi ≤ g + 1 → 1 ≤ st → st ≤ 4000000000 → 2000000000 < st * 2 ^ n → (lo = 0 ∨ lo + st ≤ g + 1) → ∃ x, f_X1_greatestFrom_10 o m fuel (lI lo) (lI hi) (lI st) = some (lI x) ∧ 0 ≤ x ∧ x ≤ 1000000000 ∧ (x = 0 ∨ P x) ∧ (x = 1000000000 ∨ ¬ P (x + 1)) := by
  have lU : (2000000000 : Int64) = lI 2000000000 := rfl
  have l0 : (0 : Int64) = lI 0 := rfl
  have l1 : (1 : Int64) = lI 1 := rfl
  have hfu : zz_fuel = 5000 := rfl
  have go : ∀ lo hi : Int, 0 ≤ lo → lo < hi → hi ≤ 1000000001 → (lo = 0 ∨ P lo) → ∃ x, f_X1_greatestFrom_58 o m zz_fuel (lI lo) (lI hi) (lI 1) = some (lI x) ∧ 0 ≤ x ∧ x ≤ 1000000000 ∧ (x = 0 ∨ P x) ∧ (x = 1000000000 ∨ ¬ P (x + 1)) := fun lo hi h1 h2 h3 h4 => pt_upw hH 31 zz_fuel lo hi 1 (by omega) h1 h2 h3 (by omega) (by omega) (by decide) (Or.inr (by omega)) h4
  intro n
  induction n with
  | zero =>
    intro fuel lo hi st hf h1 h2 h3 h4 h4' h5 h6
    obtain ⟨fu, rfl⟩ : ∃ n, fuel = n + 1 := ⟨fuel - 1, by omega⟩
    rw [Int.pow_zero, Int.mul_one] at h5
    rw [f_X1_greatestFrom_10, lU, if_pos (lI_ltT (by omega) (by omega) (by omega)), l1]
    exact go lo hi h1 h2 (by omega) (Or.inl (by omega))
  | succ n ih =>
    intro fuel lo hi st hf h1 h2 h3 h4 h4' h5 h6
    obtain ⟨fu, rfl⟩ : ∃ n, fuel = n + 1 := ⟨fuel - 1, by omega⟩
    rw [f_X1_greatestFrom_10, lU, l1]
    by_cases c0 : 2000000000 < st
    · rw [if_pos (lI_ltT (by omega) (by omega) (by omega))]
      exact go lo hi h1 h2 (by omega) (Or.inl (by omega))
    · rw [if_neg (lI_ltF (by omega) (by omega) (by omega)), l0]
      by_cases c1 : lo ≤ 0
      · rw [if_pos (lI_leT c1 (by omega) (by decide))]
        exact go lo hi h1 h2 (by omega) (Or.inl (by omega))
      · rw [if_neg (lI_leF (by omega) (by decide) (by omega))]
        rcases hH lo (by omega) (by omega) with ⟨p1, p2⟩ | ⟨p1, p2⟩
        · rw [p2, pq_bndS, if_neg (by decide)]
          exact go lo hi h1 h2 (by omega) (Or.inr p1)
        · rw [p2, pq_bndS, if_pos rfl, lI_sub]
          have h5' : 2000000000 < (st + st) * 2 ^ n := by
            rw [Int.pow_succ] at h5
            have e : (st + st) * 2 ^ n = st * (2 ^ n * 2) := by rw [Int.add_mul, ← Int.mul_assoc]; omega
            rw [e]; exact h5
          unfold f_J9_max_f86c9
          by_cases c2 : 0 < lo - st
          · rw [if_pos (lI_ltT c2 (by omega) (by omega)), pq_bndS, pq_letJ, lI_add]
            exact ih fu (lo - st) lo (st + st) (by omega) (by omega) (by omega) (by omega) (by omega) (by omega) h5' (Or.inr (by omega))
          · rw [if_neg (lI_ltF (by omega) (by omega) (by omega)), pq_bndS, pq_letJ, lI_add]
            exact ih fu 0 lo (st + st) (by omega) (by omega) (by omega) (by omega) (by omega) (by omega) h5' (Or.inl rfl)
theorem pt_great (hH : pt_H m o P) {g : Int} (hg : 0 ≤ g) (hg2 : g ≤ 1000000000) : ∃ x, f_X1_greatestFrom o m (lI g) = some (lI x) ∧ 0 ≤ x ∧ x ≤ 1000000000 ∧ (x = 0 ∨ P x) ∧ (x = 1000000000 ∨ ¬ P (x + 1)) := by
  have l1 : (1 : Int64) = lI 1 := rfl
  have hfu : zz_fuel = 5000 := rfl
  unfold f_X1_greatestFrom
  rw [l1, lI_add, pq_letJ]
  exact pt_down hH hg hg2 31 zz_fuel g (g + 1) 1 (by omega) hg (by omega) (by omega) (by omega) (by omega) (by decide) (Or.inr (by omega))
end
