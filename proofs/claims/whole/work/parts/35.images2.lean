/-! ===== image, where a Plan is made ===== -/
def zI_mem (m : zz_Mem) (n i : Nat) : zz_Mem :=
  (fun k => if n ≤ k ∧ k < n + 14 then (fun _ => 0) else m.1 k, fun k => if n ≤ k ∧ k < n + 14 then (fun _ => 0) else m.2.1 k, fun k => if n ≤ k ∧ k < n + 14 then (fun _ => none) else if k = 32 then va_up (m.2.2 32) i (some n) else m.2.2 k)
theorem zA_toMemB {l : Launch} {E : zz_G} {M : zz_M} {d mc ms : Nat} {ws0 ws : va_W} {B : va_W → Prop} {rv : Option Value} {cs sl pc n : Nat} {lv : List (Nat × Value)} {st : List Value} {a : Nat → Nat} {sh : Nat → zz_Sh} {μ : zz_Mem} (at1 : ∀ k, k < n → ∃ e, ws[k]? = some (a k, e) ∧ zA_like e (zz_encS (zA_G E a n zA_T) μ k (sh k))) (k : zA_Sim l E M d mc ms ws0 B rv cs sl pc lv st (zz_wd sh (zA_G E a n zA_T) μ)) : zA_Sim l E M d mc ms ws0 B rv cs sl pc lv st ws := by
  intro p e s m args below meth c C H locs ls hP hD hS hl
  refine k p e s m args below meth c C H locs ls ?_ ?_ hS hl
  · intro k q hk
    obtain ⟨h1, rfl⟩ := zz_wd_inv hk
    have h1 : k < n := h1
    obtain ⟨e1, h2, h3⟩ := at1 k h1
    exact zA_like_at h3 (hP k _ h2)
  · refine zz_wd_D (G := zA_G E a n (va_A ws0 s.heap.size)) ⟨fun i j hi hj he => ?_, fun k hk => ?_⟩ μ
    · obtain ⟨e1, h1, -⟩ := at1 i hi
      obtain ⟨e2, h2, -⟩ := at1 j hj
      exact hD.1 i j _ _ h1 h2 he
    · obtain ⟨e1, h1, -⟩ := at1 k hk
      exact hD.2 k _ h1
/-- no shape of the first n cells names a cell behind them -/
theorem zI_refs : ∀ k, k < 135 → ∀ f ∈ (zz_sh k).2.2, (zz_sh k).1 = 4 → f.1 = 2 → f.2 < (if k < 107 then 107 else if k < 121 then 121 else 135) := by decide +kernel
theorem zI_tags : ∀ k, k < 135 → (zz_sh k).1 = 5 → (k = 33 ∨ k = 35) := by decide +kernel
theorem zI_tag6 : ∀ k, k < 135 → 6 ≤ (zz_sh k).1 → k = 32 := by decide +kernel
theorem zI_dyn : ∀ k, k < 135 → ∀ j, j < 42 → ∀ f, (zz_sh k).2.2[j]? = some f → (zz_sh k).1 = 4 → 3 ≤ f.1 → (k = 30 ∧ j = 1) := by decide +kernel
theorem zI_lens : ∀ k, k < 135 → (zz_sh k).2.2.length < 42 := by decide +kernel
theorem zI_like {E : zz_G} {a a' : Nat → Nat} {n n' : Nat} {m m2 : zz_Mem} (hn : n = 107 ∨ n = 121) (ha : ∀ k, k < n → a' k = a k) {k : Nat} (hk : k < n) (h32 : k ≠ 32) (e1 : m2.1 k = m.1 k) (e2 : m2.2.1 k = m.2.1 k) (e3 : m2.2.2 k = m.2.2 k) (ht : ∀ o, m.2.2 30 1 = some o → o < n) : zA_like (zz_encS (zA_G E a n zA_T) m k (zz_sh k)) (zz_encS (zA_G E a' n' zA_T) m2 k (zz_sh k)) := by
  have hk2 : k < 135 := by omega
  have R := zI_refs k hk2
  have Tg := zI_tags k hk2
  have T6 := zI_tag6 k hk2
  have Dy := zI_dyn k hk2
  have Ln := zI_lens k hk2
  have Kd : ∀ j, j < (if k < 107 then 107 else if k < 121 then 121 else 135) → k < n → a' j = a j := by
    intro j hj h
    apply ha
    split at hj
    · omega
    · split at hj <;> omega
  revert R Tg T6 Dy Ln
  generalize hs : zz_sh k = s
  intro R Tg T6 Dy Ln
  obtain ⟨tag, len, fs⟩ := s
  match tag with
  | 0 => exact Or.inl (by simp only [zz_encS, e1]; rfl)
  | 1 => exact Or.inl (by simp only [zz_encS, e2]; rfl)
  | 2 => exact Or.inl (by simp only [zz_encS, e1]; rfl)
  | 3 => exact Or.inl (by simp only [zz_encS, e1]; rfl)
  | 4 =>
    refine Or.inl ?_
    show Sum.inr (len, fs.mapIdx (zz_fld (zA_G E a n zA_T) m k)) = Sum.inr (len, fs.mapIdx (zz_fld (zA_G E a' n' zA_T) m2 k))
    congr 2
    apply List.ext_getElem?
    intro j
    rw [List.getElem?_mapIdx, List.getElem?_mapIdx]
    cases hf : fs[j]? with
    | none => rfl
    | some f =>
      have hm : f ∈ fs := List.mem_of_getElem? hf
      have hj : j < 42 := Nat.lt_trans (List.getElem?_eq_some_iff.mp hf).1 Ln
      obtain ⟨t, x⟩ := f
      match t with
      | 0 => simp only [Option.map_some, zz_fld, e1]
      | 1 => simp only [Option.map_some, zz_fld, e2]
      | 2 =>
        have h1 := Kd x (R (2, x) hm rfl rfl) hk
        show some (Value.ref (a x)) = some (Value.ref (a' x))
        rw [h1]
      | t + 3 =>
        obtain ⟨rfl, rfl⟩ := Dy j hj (t + 3, x) hf rfl (by show 3 ≤ t + 3; omega)
        show some (va_rf ((m.2.2 30 1).map a)) = some (va_rf ((m2.2.2 30 1).map a'))
        rw [e3]
        cases ho : m.2.2 30 1 with
        | none => rfl
        | some o => simp only [Option.map_some]; rw [ha o (ht o ho)]
  | 5 =>
    have h1 := Tg rfl
    rcases h1 with rfl | rfl
    · have hs' : ((5, len, fs) : zz_Sh) = (5, 4, [(5, 0), (99, 2)]) := hs.symm.trans rfl
      cases hs'
      exact Or.inr ⟨zz_c E 5, 4, _, _, rfl, rfl, fun j hj => by show some (a (99 + 2 * j)) = some (a' (99 + 2 * j)); rw [ha _ (by omega)]⟩
    · have hs' : ((5, len, fs) : zz_Sh) = (5, 10, [(4, 0), (36, 3)]) := hs.symm.trans rfl
      cases hs'
      exact Or.inr ⟨zz_c E 4, 10, _, _, rfl, rfl, fun j hj => by show some (a (36 + 3 * j)) = some (a' (36 + 3 * j)); rw [ha _ (by omega)]⟩
  | t + 6 => exact absurd (T6 (by show 6 ≤ t + 6; omega)) h32
