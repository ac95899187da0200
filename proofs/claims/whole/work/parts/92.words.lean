/-! ===== 92: words ===== -/
def pKl0 : List Nat := [32, 100, 101, 115, 107, 32, 102, 105, 114, 115, 116, 32, 99, 117, 114, 118, 101, 32, 115, 104, 105, 102, 116, 32, 104, 111, 108, 105, 100, 97, 121, 32, 100, 101, 112, 111, 115, 105, 116, 32, 114, 97, 116, 101, 32, 102, 111, 114, 119, 97, 114, 100, 32, 115, 119, 97, 112, 32, 101, 118, 101, 114, 121, 32, 102, 108, 111, 119, 32, 112, 108, 117, 115, 32, 109, 105, 110, 117, 115, 32, 114, 97, 116, 101, 115, 32, 111, 112, 101, 110, 115, 32, 105, 102, 32, 116, 104, 101, 110, 32, 101, 108, 115, 101, 32, 101, 110, 100, 32, 116, 111, 108, 100, 32, 100, 97, 121, 115, 32, 107, 105, 110, 100, 32, 105, 110, 112, 117, 116, 32, 119, 101, 101, 107, 32, 100, 97, 116, 101, 32, 97, 110, 100, 32, 111, 114, 32, 110, 111, 116, 32]
def pKc (i : Nat) : Nat := pKl0.getD i 0
def pKw (n : Nat) : List Nat := ([[100, 101, 115, 107], [102, 105, 114, 115, 116], [99, 117, 114, 118, 101], [115, 104, 105, 102, 116], [104, 111, 108, 105, 100, 97, 121], [100, 101, 112, 111, 115, 105, 116], [114, 97, 116, 101], [102, 111, 114, 119, 97, 114, 100], [115, 119, 97, 112], [101, 118, 101, 114, 121], [102, 108, 111, 119], [112, 108, 117, 115], [109, 105, 110, 117, 115], [114, 97, 116, 101, 115], [111, 112, 101, 110, 115], [105, 102], [116, 104, 101, 110], [101, 108, 115, 101], [101, 110, 100], [116, 111, 108, 100], [100, 97, 121, 115], [107, 105, 110, 100], [105, 110, 112, 117, 116], [119, 101, 101, 107], [100, 97, 116, 101], [97, 110, 100], [111, 114], [110, 111, 116]] : List (List Nat)).getD n []
def pKs (n : Nat) : Nat := ([1, 6, 12, 18, 24, 32, 40, 45, 53, 58, 64, 69, 74, 80, 86, 92, 95, 100, 105, 109, 114, 119, 124, 130, 135, 140, 144, 147, 151] : List Nat).getD n 0
def pWk (w : Nat) : Nat := ([99, 0, 1, 2, 3, 4, 5, 9, 6, 7, 8, 10, 12, 11, 13, 15, 27, 25, 26, 16, 17, 18, 19, 20, 21, 22, 23, 24, 14] : List Nat).getD w 99
theorem pw_len : ∀ w, w < 30 → f_J0_length_8abf5 w = some (nI (zz_sl w)) := by decide +kernel
theorem pw_keys : zz_sl 29 = 151 := by decide +kernel
theorem pw_signs : zz_sl 0 = 12 := by decide +kernel
theorem pw_kc : ∀ i, i < 151 → f_J0_charAt_5068e 29 (nI i) = some (nI (pKc i)) := by decide +kernel
theorem pw_wl : ∀ w, w < 29 → 0 < w → zz_sl w = (pKw (pWk w)).length ∧ pWk w < 28 := by decide +kernel
theorem pw_wc : ∀ w, w < 29 → 0 < w → ∀ i, i < 7 → i < (pKw (pWk w)).length → f_J0_charAt_5068e w (nI i) = some (nI ((pKw (pWk w)).getD i 0)) := by decide +kernel
theorem pw_tab : ∀ n, n < 28 → (pKw n).length < 8 ∧ 1 < (pKw n).length ∧ pKs n + (pKw n).length + 1 = pKs (n + 1) ∧ pKc (pKs n + (pKw n).length) = 32 ∧ pKs n < 151 ∧ pKs (n + 1) ≤ 151 ∧ ∀ i, i < (pKw n).length → pKc (pKs n + i) = (pKw n).getD i 0 ∧ (pKw n).getD i 0 ≠ 32 ∧ (pKw n).getD i 0 < 123 := by decide +kernel
theorem pw_dist : ∀ n, n < 28 → ∀ k, k < 28 → pKw n = pKw k → n = k := by decide +kernel
/-- the bytes from p to q are the n-th word -/
def pMb (B : Nat → Nat) (p q n : Nat) : Bool := decide (q = p + (pKw n).length ∧ ∀ i, i < (pKw n).length → B (p + i) = (pKw n).getD i 0)
abbrev pMt (B : Nat → Nat) (p q n : Nat) : Prop := pMb B p q n = true
theorem pMt_d {B : Nat → Nat} {p q n : Nat} : pMt B p q n ↔ q = p + (pKw n).length ∧ ∀ i, i < (pKw n).length → B (p + i) = (pKw n).getD i 0 := by
  show decide _ = true ↔ _
  rw [decide_eq_true_iff]
def pKf (B : Nat → Nat) (p q : Nat) : Nat → Nat → Nat
  | 0, _ => 28
  | r + 1, n => if pMt B p q n then n else pKf B p q r (n + 1)
def pKey (B : Nat → Nat) (p q : Nat) : Nat := pKf B p q 28 0
theorem pMt_un {B : Nat → Nat} {p q n k : Nat} (hn : n < 28) (hk : k < 28) (h : pMt B p q n) (g : pMt B p q k) : n = k := by
  apply pw_dist n hn k hk
  have hl : (pKw n).length = (pKw k).length := by have := (pMt_d.mp h).1; have := (pMt_d.mp g).1; omega
  apply List.ext_getElem hl
  intro i h1 h2
  have e1 := (pMt_d.mp h).2 i h1
  have e2 := (pMt_d.mp g).2 i h2
  rw [List.getD_eq_getElem?_getD, List.getElem?_eq_getElem h1] at e1
  rw [List.getD_eq_getElem?_getD, List.getElem?_eq_getElem h2] at e2
  exact e1.symm.trans e2
theorem pKf_s {B : Nat → Nat} {p q : Nat} : ∀ r n, n + r = 28 → (pKf B p q r n = 28 ∧ ∀ k, n ≤ k → k < 28 → ¬ pMt B p q k) ∨ (pKf B p q r n < 28 ∧ pMt B p q (pKf B p q r n)) := by
  intro r
  induction r with
  | zero => intro n h; exact Or.inl ⟨rfl, fun k h1 h2 => absurd h2 (by omega)⟩
  | succ r ih =>
    intro n h
    rw [pKf]
    by_cases c : pMt B p q n
    · rw [if_pos c]; exact Or.inr ⟨by omega, c⟩
    · rw [if_neg c]
      rcases ih (n + 1) (by omega) with ⟨e, f⟩ | ⟨e, f⟩
      · refine Or.inl ⟨e, fun k h1 h2 => ?_⟩
        by_cases ck : k = n
        · rw [ck]; exact c
        · exact f k (by omega) h2
      · exact Or.inr ⟨e, f⟩
theorem pKey_b (B : Nat → Nat) (p q : Nat) : pKey B p q ≤ 28 := by
  rcases pKf_s (B := B) (p := p) (q := q) 28 0 (by omega) with ⟨e, -⟩ | ⟨e, -⟩ <;> unfold pKey <;> omega
theorem pKey_i {B : Nat → Nat} {p q n : Nat} (hn : n < 28) : pMt B p q n ↔ pKey B p q = n := by
  rcases pKf_s (B := B) (p := p) (q := q) 28 0 (by omega) with ⟨e, f⟩ | ⟨e, f⟩
  · exact ⟨fun h => absurd h (f n (by omega) hn), fun h => absurd (show pKey B p q = 28 from e) (by omega)⟩
  · exact ⟨fun h => pMt_un e hn f h, fun h => by rw [← h]; exact f⟩
/-- the reference finds the word -/
theorem pr_keyAt {B : Nat → Nat} {p q : Nat} {m : zz_Mem} (hp : p < q) (hq : q ≤ 900) (h6 : m.1 0 6 = nI p) (h7 : m.1 0 7 = nI q) (h3 : ∀ j, j < q → m.1 3 j = nI (B j) ∧ B j < 256) : f_X12_keyAt m = some (nI (pKey B p q)) := by
  have hfu : zz_fuel = 5000 := rfl
  have l32 : (32 : Int32) = nI 32 := rfl
  have skip : ∀ (k4 : Int32 → Int32 → Option Int32) (n : Nat), n < 28 → ∀ (r i fuel : Nat), i + r = (pKw n).length → r < fuel → f_X12_keyAt_97 m k4 fuel (nI n) (nI (pKs n + i)) = k4 (nI (n + 1)) (nI (pKs (n + 1))) := by
    intro k4 n hn r
    obtain ⟨t1, t0, t2, t3, t4, t5, t6⟩ := pw_tab n hn
    induction r with
    | zero =>
      intro i fuel g1 g2
      obtain ⟨fu, rfl⟩ : ∃ n, fuel = n + 1 := ⟨fuel - 1, by omega⟩
      obtain rfl : i = (pKw n).length := by omega
      rw [f_X12_keyAt_97, pw_kc _ (by omega), pq_bndS, t3, if_pos (show nI 32 = 32 from rfl), pq_letI, pq_letI, nI_1, nI_1, t2]
    | succ r ih =>
      intro i fuel g1 g2
      obtain ⟨fu, rfl⟩ : ∃ n, fuel = n + 1 := ⟨fuel - 1, by omega⟩
      obtain ⟨u1, u2, u3⟩ := t6 i (by omega)
      rw [f_X12_keyAt_97, pw_kc _ (by omega), pq_bndS, u1, l32, if_neg (by rw [nI_eq (by omega) (by omega)]; exact u2), pq_letI, nI_1]
      exact ih (i + 1) fu (by omega) (by omega)
  have word : ∀ (k4 : Int32 → Int32 → Option Int32) (n : Nat), n < 28 → ∀ (r i fuel : Nat), i + r = (pKw n).length → r < fuel → p + i ≤ q → (∀ j, j < i → B (p + j) = (pKw n).getD j 0) → f_X12_keyAt_15 m k4 fuel (nI n) (nI (pKs n)) (nI i) = if pMt B p q n then some (nI n) else k4 (nI (n + 1)) (nI (pKs (n + 1))) := by
    intro k4 n hn r
    obtain ⟨t1, t0, t2, t3, t4, t5, t6⟩ := pw_tab n hn
    have sk := skip k4 n hn (pKw n).length 0 zz_fuel (by omega) (by omega)
    rw [Nat.add_zero] at sk
    have no : ∀ i, i < (pKw n).length → ¬ pMt B p q n → f_X12_keyAt_69 m k4 (nI n) (nI (pKs n)) (nI i) = if pMt B p q n then some (nI n) else k4 (nI (n + 1)) (nI (pKs (n + 1))) := fun i hi hm => by
      obtain ⟨u1, u2, u3⟩ := t6 i hi
      rw [f_X12_keyAt_69, nI_add, pw_kc _ (by omega), pq_bndS, u1, l32, if_neg (by rw [nI_eq (by omega) (by omega)]; exact u2), sk, if_neg hm]
    induction r with
    | zero =>
      intro i fuel g1 g2 g3 g4
      obtain ⟨fu, rfl⟩ : ∃ n, fuel = n + 1 := ⟨fuel - 1, by omega⟩
      obtain rfl : i = (pKw n).length := by omega
      rw [f_X12_keyAt_15, nI_add, pw_kc _ (by omega), pq_bndS, t3, if_pos (show nI 32 = 32 from rfl), f_X12_keyAt_69, nI_add, pw_kc _ (by omega), pq_bndS, t3, if_pos (show nI 32 = 32 from rfl), h6, h7, nI_add]
      by_cases c : p + (pKw n).length = q
      · rw [if_pos (by rw [c]), if_pos (pMt_d.mpr ⟨c.symm, g4⟩)]
      · rw [if_neg (by rw [nI_eq (by omega) (by omega)]; exact c), sk, if_neg (fun z => c (pMt_d.mp z).1.symm)]
    | succ r ih =>
      intro i fuel g1 g2 g3 g4
      obtain ⟨fu, rfl⟩ : ∃ n, fuel = n + 1 := ⟨fuel - 1, by omega⟩
      obtain ⟨u1, u2, u3⟩ := t6 i (by omega)
      rw [f_X12_keyAt_15, nI_add, pw_kc _ (by omega), pq_bndS, u1, l32, if_neg (by rw [nI_eq (by omega) (by omega)]; exact u2), h6, h7, nI_add]
      by_cases c : q ≤ p + i
      · rw [if_pos (nI_le c (by omega))]
        exact no i (by omega) (fun z => by have := (pMt_d.mp z).1; omega)
      · obtain ⟨v1, v2⟩ := h3 (p + i) (by omega)
        rw [if_neg (nI_ge (by omega) (by omega)), pq_ixE (by omega) (by decide), pq_bndS, nI_clamp (by omega), v1]
        by_cases d : B (p + i) = (pKw n).getD i 0
        · rw [if_pos (by rw [d]), pq_letI, nI_1]
          exact ih (i + 1) fu (by omega) (by omega) (by omega) (fun j hj => by
            by_cases cj : j = i
            · rw [cj]; exact d
            · exact g4 j (by omega))
        · rw [if_neg (by rw [nI_eq (by omega) (by omega)]; exact d)]
          exact no i (by omega) (fun z => d ((pMt_d.mp z).2 i (by omega)))
  have all : ∀ (r n fuel : Nat), n + r = 28 → r < fuel → f_X12_keyAt_4 m fuel (nI n) (nI (pKs n)) = some (nI (pKf B p q r n)) := by
    intro r
    induction r with
    | zero =>
      intro n fuel g1 g2
      obtain ⟨fu, rfl⟩ : ∃ n, fuel = n + 1 := ⟨fuel - 1, by omega⟩
      obtain rfl : n = 28 := by omega
      rw [f_X12_keyAt_4, pw_len 29 (by omega), pq_bndS, pw_keys, if_pos (by decide)]; rfl
    | succ r ih =>
      intro n fuel g1 g2
      obtain ⟨fu, rfl⟩ : ∃ n, fuel = n + 1 := ⟨fuel - 1, by omega⟩
      obtain ⟨t1, t0, t2, t3, t4, t5, t6⟩ := pw_tab n (by omega)
      have hw := word (f_X12_keyAt_4 m fu) n (by omega) (pKw n).length 0 zz_fuel (by omega) (by omega) (by omega) (fun j hj => absurd hj (Nat.not_lt_zero _))
      rw [nI_0] at hw
      rw [f_X12_keyAt_4, pw_len 29 (by omega), pq_bndS, pw_keys, if_neg (nI_ge (by omega) (by omega)), hw, pKf]
      by_cases c : pMt B p q n
      · rw [if_pos c, if_pos c]
      · rw [if_neg c, if_neg c]; exact ih (n + 1) fu (by omega) (by omega)
  exact all 28 0 zz_fuel (by omega) (by omega)
