/-! ===== from worlds as lists to memories ===== -/
def zA_G (E : zz_G) (a : Nat → Nat) (n : Nat) (A : Nat → Prop) : zz_G := (zz_D E, zz_c E, a, zz_sk E, zz_sv E, A, n)
def zA_T : Nat → Prop := fun _ => True
def zA_adr (ws : va_W) : Nat → Nat := fun k => (ws.getD k (0, .inr (0, []))).1
/-- cells that hold the same -/
def zA_like (e e' : va_E) : Prop := e = e' ∨ ∃ (cA : ClassId) (n : Nat) (f g : Nat → Option Nat), e = .inl (cA, n, .inr (.inr (.inr (.inr f)))) ∧ e' = .inl (cA, n, .inr (.inr (.inr (.inr g)))) ∧ ∀ j, j < n → f j = g j
theorem zA_arrV {cA : ClassId} {n : Nat} {f g : Nat → Value} (h : ∀ j, j < n → f j = g j) : arrV cA n f = arrV cA n g := by
  unfold arrV
  congr 1
  apply Array.ext
  · simp
  · intro i h1 h2
    simp at h1
    simp [h i h1]
theorem zA_like_at {D : va_G} {x : Nat} {e e' : va_E} {H : Heap} (h : zA_like e e') (k : va_at D zz_cl (x, e) H) : va_at D zz_cl (x, e') H := by
  rcases h with rfl | ⟨cA, n, f, g, rfl, rfl, hj⟩
  · exact k
  · have e1 : vp_cell cA (n, .inr (.inr (.inr (.inr f)))) = vp_cell cA (n, .inr (.inr (.inr (.inr g)))) := by
      rw [vp_cell_q, vp_cell_q]
      exact zA_arrV (fun j h => by rw [hj j h])
    show H[x]? = some (vp_cell cA (n, .inr (.inr (.inr (.inr g)))))
    rw [← e1]
    exact k
theorem zA_conv {E : zz_G} {sh : Nat → zz_Sh} {ws : va_W} {n : Nat} {μ : zz_Mem} (hn : ws.length = n) (h : ∀ k, k < n → zA_like (ws.getD k (0, .inr (0, []))).2 (zz_encS (zA_G E (zA_adr ws) n zA_T) μ k (sh k))) {D : va_G} {H : Heap} (hP : va_P D zz_cl ws H) : va_P D zz_cl (zz_wd sh (zA_G E (zA_adr ws) n zA_T) μ) H := by
  intro k q hk
  obtain ⟨h1, rfl⟩ := zz_wd_inv hk
  have h2 : ws[k]? = some (ws.getD k (0, .inr (0, []))) := by
    have h3 : k < ws.length := by rw [hn]; exact h1
    rw [List.getD_eq_getElem?_getD, List.getElem?_eq_getElem h3]
    rfl
  have h3 := hP k _ h2
  exact zA_like_at (h k h1) h3
theorem zA_convD {E : zz_G} {sh : Nat → zz_Sh} {ws : va_W} {n : Nat} {μ : zz_Mem} {A : Nat → Prop} (hn : ws.length = n) (hD : va_D A ws) : zz_aD (zA_G E (zA_adr ws) n A) := by
  have h2 : ∀ k, k < n → ws[k]? = some (ws.getD k (0, .inr (0, []))) := by
    intro k h1
    have h3 : k < ws.length := by rw [hn]; exact h1
    rw [List.getD_eq_getElem?_getD, List.getElem?_eq_getElem h3]
    rfl
  exact ⟨fun i j hi hj he => hD.1 i j _ _ (h2 i hi) (h2 j hj) he, fun k hk => hD.2 k _ (h2 k hk)⟩
theorem zA_wdD {E : zz_G} {sh : Nat → zz_Sh} {a : Nat → Nat} {n : Nat} {μ : zz_Mem} {A : Nat → Prop} (h : va_D A (zz_wd sh (zA_G E a n zA_T) μ)) : zz_aD (zA_G E a n A) :=
  ⟨fun i j hi hj he => h.1 i j _ _ (zz_wd_at (G := zA_G E a n zA_T) hi) (zz_wd_at (G := zA_G E a n zA_T) hj) he, fun k hk => h.2 k _ (zz_wd_at (G := zA_G E a n zA_T) hk)⟩
theorem zA_narrow {G G' : zz_G} {U : State} {H : Heap} (h : zz_Cst G U H) (hk : zz_sk G' = zz_sk G) (hv : zz_sv G' = zz_sv G) (hA : ∀ q, zz_A G' q → zz_A G q) : zz_Cst G' U H := by
  refine ⟨fun i hi => ?_, h.2.1.narrow hA, h.2.2.narrow hA⟩
  rw [hk, hv]
  exact ⟨(h.1 i hi).1.narrow hA, (h.1 i hi).2.1.narrow hA, (h.1 i hi).2.2.1.narrow hA, (h.1 i hi).2.2.2.narrow hA⟩
section ZM
variable {l : Launch} {E : zz_G} {M M' : zz_M} {d d' mc ms : Nat} {ws0 : va_W} {B : va_W → Prop} {rv : Option Value} {cs sl pc idx n nn : Nat} {lv : List (Nat × Value)} {st rest As : List Value} {b : Nat} {a : Nat → Nat} {sh : Nat → zz_Sh} {μ μ' : zz_Mem} {ws : va_W}
/-- from here on the world is a memory -/
theorem zA_toMem (hn : ws.length = n) (h : ∀ k, k < n → zA_like (ws.getD k (0, .inr (0, []))).2 (zz_encS (zA_G E (zA_adr ws) n zA_T) μ k (sh k))) (k : zA_Sim l E M d mc ms ws0 B rv cs sl pc lv st (zz_wd sh (zA_G E (zA_adr ws) n zA_T) μ)) : zA_Sim l E M d mc ms ws0 B rv cs sl pc lv st ws := by
  intro p e s m args below meth c C H locs ls hP hD hS hl
  refine k p e s m args below meth c C H locs ls (zA_conv hn h hP) ?_ hS hl
  exact zz_wd_D (G := zA_G E (zA_adr ws) n (va_A ws0 s.heap.size)) (zA_convD (sh := sh) (μ := μ) hn hD) μ
theorem zA_methV (hcon : ∀ A, zz_Con sh l (zA_G E a n A) M' d' (.ref b :: As) zz_vV zz_mV (some μ') μ) (hd : decode M.2.1 pc = .ok (.invokevirtual idx, 3)) (L : zz_LV M.1.cls idx M') (ho : zz_ok M' nn) (hr : ∀ A, zz_Rcv sh (zA_G E a n A) b M'.1.cls) (hdd : d' + 1 ≤ d) (hn : As.length = nn) (hst : As.reverse ++ .ref b :: rest = st) (hW : (rest.map fun v => v.category).sum ≤ 8)
    (hc : cs ≤ mc) (hs : sl ≤ ms) (k : zA_Sim l E M d mc ms ws0 B rv cs sl (pc + 3) lv rest (zz_wd sh (zA_G E a n zA_T) μ')) : zA_Sim l E M d mc ms ws0 B rv cs sl pc lv st (zz_wd sh (zA_G E a n zA_T) μ) := by
  intro p e s m args below meth c C H locs ls hP hD hS hl
  have hw := C.2.2.2.2.2.1
  have hE := C.2.2.2.2.2.2.2.2.1
  have hD0 := C.2.2.2.2.2.2.2.2.2
  subst hst
  have haD := zA_wdD hD
  have hM := hcon (va_A ws0 s.heap.size) μ' rfl
  have hEnv : zz_Env (zA_G E a n (va_A ws0 s.heap.size)) s := ⟨hE.1, haD, zA_narrow hE.2.1 rfl rfl (zA_le hE hD0), hE.2.2.1, hE.2.2.2.1⟩
  intro T hT X
  have hr := va_runV (R := zA_rm d mc ms) (p := p) (e := e) (below := below) (meth := meth) (H := H) (locs := locs) (cells := cs) (slots := sl) (Ts := zz_ws M) (C := M'.1.cls) (As := As) (rest := rest) (g := F0 m pc ls (As.reverse ++ .ref b :: rest)) ⟨C.1, C.2.1, C.2.2.2.1, C.2.2.2.2.1, hw⟩ hM ⟨zz_callB (M := M) ho hw L.1 hdd (by show 40 * (d' + 1) ≤ 40 * d; omega), hw _ (List.mem_cons_of_mem _ L.2.1), hw _ (List.mem_cons_of_mem _ L.2.2)⟩ ⟨zz_blind _, hr (va_A ws0 s.heap.size) s H locs μ hEnv hP hS, fun U hU hWm => ⟨rfl, hEnv.warm hWm (locs := locs) (by rw [hU]; exact hS), by rw [hU]; exact hP⟩⟩ rfl hn hl.1 rfl (lv_room hW) hd ⟨hc, hs⟩ T hT X
  obtain ⟨v1, st₀, t, T', L', h0, X', hL, e1, e2, ⟨hv, hp, hz, hk⟩, st⟩ := hr
  cases hv
  rw [h0] at hz hk
  obtain ⟨t2, a1, b1⟩ := k p e s m args below meth c C T'.heap (locs ++ L') ls (by rw [e1]; exact hp) (zz_wd_D (G := zA_G E a n (va_A ws0 s.heap.size)) haD μ')
    ⟨Nat.le_trans hS.1 (by rw [e1]; exact hz), fun q h1 h2 => by rw [e1, hk q (Nat.lt_of_lt_of_le h1 hS.1) h2]; exact hS.2.1 q h1 h2, fun q hq => by
      rcases List.mem_append.mp hq with h | h
      · exact hS.2.2 q h
      · exact hL q h⟩ hl T' rfl X'
  exact ⟨t2, st t2 a1, b1⟩
theorem zA_methS (hcon : ∀ A, zz_Con sh l (zA_G E a n A) M' d' As zz_vV zz_mV (some μ') μ) (hd : decode M.2.1 pc = .ok (.invokestatic idx, 3)) (L : zz_LS M.1.cls idx M') (ho : zz_ok M' nn) (hdd : d' + 1 ≤ d) (hn : As.length = nn) (hst : As.reverse ++ rest = st) (hW : (rest.map fun v => v.category).sum ≤ 8)
    (hc : cs ≤ mc) (hs : sl ≤ ms) (k : zA_Sim l E M d mc ms ws0 B rv cs sl (pc + 3) lv rest (zz_wd sh (zA_G E a n zA_T) μ')) : zA_Sim l E M d mc ms ws0 B rv cs sl pc lv st (zz_wd sh (zA_G E a n zA_T) μ) := by
  intro p e s m args below meth c C H locs ls hP hD hS hl
  have hw := C.2.2.2.2.2.1
  have hE := C.2.2.2.2.2.2.2.2.1
  have hD0 := C.2.2.2.2.2.2.2.2.2
  subst hst
  have haD := zA_wdD hD
  have hM := hcon (va_A ws0 s.heap.size) μ' rfl
  have hEnv : zz_Env (zA_G E a n (va_A ws0 s.heap.size)) s := ⟨hE.1, haD, zA_narrow hE.2.1 rfl rfl (zA_le hE hD0), hE.2.2.1, hE.2.2.2.1⟩
  intro T hT X
  have hr := va_runS (R := zA_rm d mc ms) (p := p) (e := e) (below := below) (meth := meth) (H := H) (locs := locs) (cells := cs) (slots := sl) (Ts := zz_ws M) (As := As) (rest := rest) (g := F0 m pc ls (As.reverse ++ rest)) ⟨C.1, C.2.1, C.2.2.2.1, C.2.2.2.2.1, hw⟩ hM ⟨zz_callB (M := M) ho hw L.1 hdd (by show 40 * (d' + 1) ≤ 40 * d; omega), hw _ (List.mem_cons_of_mem _ L.2)⟩ ⟨zz_blind _, fun U hU hWm => ⟨rfl, hEnv.warm hWm (locs := locs) (by rw [hU]; exact hS), by rw [hU]; exact hP⟩⟩ rfl hn hl.1 rfl (lv_room hW) hd ⟨hc, hs⟩ T hT X
  obtain ⟨v1, st₀, t, T', L', h0, X', hL, e1, e2, ⟨hv, hp, hz, hk⟩, st⟩ := hr
  cases hv
  rw [h0] at hz hk
  obtain ⟨t2, a1, b1⟩ := k p e s m args below meth c C T'.heap (locs ++ L') ls (by rw [e1]; exact hp) (zz_wd_D (G := zA_G E a n (va_A ws0 s.heap.size)) haD μ')
    ⟨Nat.le_trans hS.1 (by rw [e1]; exact hz), fun q h1 h2 => by rw [e1, hk q (Nat.lt_of_lt_of_le h1 hS.1) h2]; exact hS.2.1 q h1 h2, fun q hq => by
      rcases List.mem_append.mp hq with h | h
      · exact hS.2.2 q h
      · exact hL q h⟩ hl T' rfl X'
  exact ⟨t2, st t2 a1, b1⟩
theorem zA_getM {ci i kk x : Nat} {ty : FieldType} {fin : Bool} {fs : List (Nat × Nat)} (F : zz_FL M.1.cls idx ci i ty fin) (hd : decode M.2.1 pc = .ok (.getfield idx, 3)) (S0 : ∀ A, zz_SH sh (zA_G E a n A) kk (4, ci, fs)) (hf : fs[i]? = some (2, x)) (k : zA_Sim l E M d mc ms ws0 B rv cs sl (pc + 3) lv (.ref (a x) :: st) (zz_wd sh (zA_G E a n zA_T) μ)) : zA_Sim l E M d mc ms ws0 B rv cs sl pc lv (.ref (a kk) :: st) (zz_wd sh (zA_G E a n zA_T) μ) := by
  obtain ⟨hk, hsh⟩ := S0 zA_T
  refine zA_get (q0 := kk) (fs := fs.mapIdx (zz_fld (zA_G E a n zA_T) μ kk)) F hd (by rw [zz_wd_at hk, hsh]; rfl) (v := .ref (a x)) (by rw [List.getElem?_mapIdx, hf]; rfl) k
end ZM
