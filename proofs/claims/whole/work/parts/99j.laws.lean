/-! ===== 99j: laws, by depth ===== -/
theorem bx_ri {B : Nat → Nat} {len p : Nat} {μ ν ν1 : zz_Mem} (h : pBad B len p μ ν) (e : f_X12_fails 2 ν = some ν1) (f : pFx ν1) (x : Nat) (d : Int32) : pRi (grp_X12 (x + 6)) d ν = some ν1 := by
  have s : grp_X12 (x + 6) 0 (d + 1) ν1 = some ν1 := fx_sum f (x + 3) _
  have t := (bx_all h e f x (d + 1)).2.2.2.2.2
  unfold pRi
  rw [t, pq_bndS, fx_eats f, pq_bnd2, if_pos rfl, fx_fails f, pq_bndS]
  unfold f_X12_readIf_30
  rw [s, pq_bndS, fx_eats f, pq_bnd2, if_pos rfl, fx_fails f, pq_bndS]
  unfold f_X12_readIf_51
  rw [s, pq_bndS, fx_eats f, pq_bnd2, if_pos rfl, fx_fails f, pq_bndS]
  unfold f_X12_readIf_72
  rw [fx_codes f, pq_bndS]
def pLv (B : Nat → Nat) (len sh lo hi k dd : Nat) : Prop := ∀ n n', pGr B len sh lo hi false (5 * k + 3) (grp_X7 (n + 8 * k + 3) 0 (nI dd)) (grp_X12 (n' + 8 * k + 4) 0 (nI dd)) ∧ pGr B len sh lo hi true (5 * k + 4) (grp_X7 (n + 8 * k + 5) 6 (nI dd)) (grp_X12 (n' + 8 * k + 5) 6 (nI dd)) ∧ pGr B len sh lo hi true (5 * k + 6) (grp_X7 (n + 8 * k + 7) 4 (nI dd)) (grp_X12 (n' + 8 * k + 7) 4 (nI dd))
theorem pl_step {B : Nat → Nat} {len sh lo hi k dd : Nat} (h : dd + k = 6) (ih : dd < 6 → pLv B len sh lo hi (k - 1) (dd + 1)) : pLv B len sh lo hi k dd := by
  have hd : dd ≤ 6 := by omega
  have hS : dd < 6 → ∀ x y, 8 * k ≤ x + 5 → 8 * k ≤ y + 4 → pGr B len sh lo hi false (5 * k - 2) (grp_X7 x 0 (nI (dd + 1))) (grp_X12 y 0 (nI (dd + 1))) := fun hlt x y hx hy => by
    have q := (ih hlt (x + 5 - 8 * k) (y + 4 - 8 * k)).1
    rw [show x + 5 - 8 * k + 8 * (k - 1) + 3 = x by omega, show y + 4 - 8 * k + 8 * (k - 1) + 4 = y by omega, show 5 * (k - 1) + 3 = 5 * k - 2 by omega] at q
    exact q
  have hU : dd < 6 → ∀ x y, 8 * k ≤ x + 3 → 8 * k ≤ y + 3 → pGr B len sh lo hi true (5 * k - 1) (grp_X7 x 6 (nI (dd + 1))) (grp_X12 y 6 (nI (dd + 1))) := fun hlt x y hx hy => by
    have q := (ih hlt (x + 3 - 8 * k) (y + 3 - 8 * k)).2.1
    rw [show x + 3 - 8 * k + 8 * (k - 1) + 5 = x by omega, show y + 3 - 8 * k + 8 * (k - 1) + 5 = y by omega, show 5 * (k - 1) + 4 = 5 * k - 1 by omega] at q
    exact q
  have hT : dd < 6 → ∀ x y, 8 * k ≤ x + 1 → 8 * k ≤ y + 1 → pGr B len sh lo hi true (5 * k + 1) (grp_X7 x 4 (nI (dd + 1))) (grp_X12 y 4 (nI (dd + 1))) := fun hlt x y hx hy => by
    have q := (ih hlt (x + 1 - 8 * k) (y + 1 - 8 * k)).2.2
    rw [show x + 1 - 8 * k + 8 * (k - 1) + 7 = x by omega, show y + 1 - 8 * k + 8 * (k - 1) + 7 = y by omega, show 5 * (k - 1) + 6 = 5 * k + 1 by omega] at q
    exact q
  have zS : ∀ x y d, 3 ≤ x → 3 ≤ y → pZd B len (grp_X7 x 0 d) (grp_X12 y 0 d) := fun x y d hx hy => by
    have q := pz_sum (B := B) (len := len) (x - 3) (y - 3) d
    rw [show x - 3 + 3 = x by omega, show y - 3 + 3 = y by omega] at q; exact q
  have zU : ∀ x y d, 5 ≤ x → 4 ≤ y → pZd B len (grp_X7 x 6 d) (grp_X12 y 6 d) := fun x y d hx hy => by
    have q := pz_unit (B := B) (len := len) (x - 5) (y - 4) d
    rw [show x - 5 + 5 = x by omega, show y - 4 + 4 = y by omega] at q; exact q
  have zT : ∀ x y d, 7 ≤ x → 6 ≤ y → pZd B len (grp_X7 x 4 d) (grp_X12 y 4 d) := fun x y d hx hy => by
    have q := pz_truth (B := B) (len := len) (x - 7) (y - 6) d
    rw [show x - 7 + 7 = x by omega, show y - 6 + 6 = y by omega] at q; exact q
  have bS : ∀ y d, 3 ≤ y → ∀ p m n n1, pBad B len p m n → f_X12_fails 2 n = some n1 → pFx n1 → grp_X12 y 0 d n = some n1 := fun y d hy p m n n1 hb e f => by
    have q := (bx_all hb e f (y - 3) d).2.2.1
    rw [show y - 3 + 3 = y by omega] at q; exact q
  have bU : ∀ y d, 4 ≤ y → ∀ p m n n1, pBad B len p m n → f_X12_fails 2 n = some n1 → pFx n1 → grp_X12 y 6 d n = some n1 := fun y d hy p m n n1 hb e f => by
    have q := (bx_all hb e f (y - 4) d).2.2.2.1
    rw [show y - 4 + 4 = y by omega] at q; exact q
  have bT : ∀ y d, 6 ≤ y → ∀ p m n n1, pBad B len p m n → f_X12_fails 2 n = some n1 → pFx n1 → grp_X12 y 4 d n = some n1 := fun y d hy p m n n1 hb e f => by
    have q := (bx_all hb e f (y - 6) d).2.2.2.2.2
    rw [show y - 6 + 6 = y by omega] at q; exact q
  have atom : ∀ x y, 8 * k ≤ x → 8 * k + 1 ≤ y → pGr B len sh lo hi false (5 * k + 1) (f_X7_readAtom (grp_X7 x) (nI dd)) (f_X12_readAtom (grp_X12 y) (nI dd)) := fun x y hx hy => by
    obtain ⟨y1, rfl⟩ : ∃ y1, y = y1 + 1 := ⟨y - 1, by omega⟩
    refine pg_atom (Ds := 5 * k - 2) (gc := grp_X7 (x - 1)) (gr := grp_X12 y1) hd (by omega) (by omega) (fun hlt => zS _ _ _ (by omega) (by omega)) (fun hlt => hS hlt _ _ (by omega) (by omega)) (fun hlt => bS _ _ (by omega)) (fun hlt m => ?_) (fun n => rfl) (fun hlt N p m n μ2 ν2 hlw hN st => ?_) (fun hlt p m n n1 hb e f => ?_)
    · obtain ⟨x1, rfl⟩ : ∃ x1, x = x1 + 1 := ⟨x - 1, by omega⟩
      rfl
    · have hl : len ≤ 900 := by
        rcases st.2.2 with ⟨p1, C, q0, q1, q2, q3, q4⟩ | ⟨p1, k', q1, q2, q3, q4⟩ | q
        · exact q2.1.1
        · exact q2.2.1.1
        · obtain ⟨⟨w, p1, f⟩, -⟩ := q; exact f.1.1.1
      exact ps_choice (Dt := 5 * k + 1) (Ds := 5 * k - 2) hlw hN hl (zT _ _ _ (by omega) (by omega)) (hT hlt _ _ (by omega) (by omega)) (zS _ _ _ (by omega) (by omega)) (hS hlt _ _ (by omega) (by omega)) (by omega) (by omega) st
    · have q := bx_ri hb e f (y1 - 6) (nI dd)
      rw [show y1 - 6 + 6 = y1 by omega] at q
      exact q
  have sum : ∀ x y, 8 * k ≤ x → 8 * k + 1 ≤ y → pGr B len sh lo hi false (5 * k + 3) (grp_X7 (x + 3) 0 (nI dd)) (grp_X12 (y + 3) 0 (nI dd)) := fun x y hx hy =>
    pg_sum (g := grp_X7 (x + 2)) (g' := grp_X12 (y + 2)) (pz_term x y _) (pg_term (g := grp_X7 (x + 1)) (g' := grp_X12 (y + 1)) (pz_atom x y _) (atom x y hx hy))
  have unit : ∀ x y, 8 * k ≤ x → 8 * k + 1 ≤ y → pGr B len sh lo hi true (5 * k + 4) (grp_X7 (x + 5) 6 (nI dd)) (grp_X12 (y + 4) 6 (nI dd)) := fun x y hx hy =>
    pg_unit (g := grp_X7 (x + 4)) (g' := grp_X12 (y + 3)) (Dc := 5 * k + 4) (Du := 5 * k - 1) (Dt := 5 * k + 1) hd (pg_comp (g := grp_X7 (x + 3)) (g' := grp_X12 (y + 3)) (pz_sum x y _) (fun n f => fx_sum f y _) (sum x y hx hy)) (fun hlt => zU _ _ _ (by omega) (by omega)) (fun hlt => hU hlt _ _ (by omega) (by omega)) (fun hlt => zT _ _ _ (by omega) (by omega)) (fun hlt => hT hlt _ _ (by omega) (by omega)) (fun hlt => bU _ _ (by omega)) (fun hlt => bT _ _ (by omega)) (Nat.le_refl _) (by omega) (by omega)
  have truth : ∀ x y, 8 * k ≤ x → 8 * k + 1 ≤ y → pGr B len sh lo hi true (5 * k + 6) (grp_X7 (x + 7) 4 (nI dd)) (grp_X12 (y + 6) 4 (nI dd)) := fun x y hx hy =>
    pg_truth (g := grp_X7 (x + 6)) (g' := grp_X12 (y + 5)) (pz_both x y _) (pg_both (g := grp_X7 (x + 5)) (g' := grp_X12 (y + 4)) (pz_unit x y _) (unit x y hx hy))
  intro n n'
  have e1 := sum (n + 8 * k) (n' + 8 * k + 1) (by omega) (by omega)
  have e2 := unit (n + 8 * k) (n' + 8 * k + 1) (by omega) (by omega)
  have e3 := truth (n + 8 * k) (n' + 8 * k + 1) (by omega) (by omega)
  exact ⟨e1, e2, e3⟩
theorem pl_all {B : Nat → Nat} {len sh lo hi : Nat} : ∀ k, k ≤ 6 → pLv B len sh lo hi k (6 - k) := by
  intro k
  induction k with
  | zero => intro _; exact pl_step (by omega) (fun hlt => absurd hlt (by omega))
  | succ k ih =>
    intro hk
    refine pl_step (by omega) (fun _ => ?_)
    have q := ih (by omega)
    rw [show 6 - (k + 1) + 1 = 6 - k by omega]
    exact q
/-- a law of rates, a law of open days -/
theorem pl_sum {B : Nat → Nat} {len sh lo hi : Nat} : pGr B len sh lo hi false 33 (F_X7_readSum 0) (F_X12_readSum 0) := (pl_all (B := B) (len := len) (sh := sh) (lo := lo) (hi := hi) 6 (Nat.le_refl _) 9 8).1
theorem pl_truth {B : Nat → Nat} {len sh lo hi : Nat} : pGr B len sh lo hi true 36 (F_X7_readTruth 0) (F_X12_readTruth 0) := (pl_all (B := B) (len := len) (sh := sh) (lo := lo) (hi := hi) 6 (Nat.le_refl _) 5 5).2.2
theorem pl_zsum {B : Nat → Nat} {len : Nat} : pZd B len (F_X7_readSum 0) (F_X12_readSum 0) := pz_sum 57 57 0
theorem pl_ztruth {B : Nat → Nat} {len : Nat} : pZd B len (F_X7_readTruth 0) (F_X12_readTruth 0) := pz_truth 53 54 0
