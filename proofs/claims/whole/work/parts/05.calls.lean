/-! ===== rows: calls ===== -/
def zz_ok (M' : zz_M) (n : Nat) : Prop := Cond.code M'.1 M'.2.1 M'.2.2.1 M'.2.2.2 ∈ zz_tbl ∧ Cond.initialized M'.1.cls ∈ zz_tbl ∧ (M'.1.cls ≠ "java/lang/invoke/MethodHandle" ∧ M'.1.cls ≠ "java/lang/invoke/VarHandle" ∧ (parseMethodDescriptor M'.1.desc).map (fun d => d.parameters.length) = some n) ∧ M'.2.2.1 ≤ 21
def zz_LV (own : String) (idx : Nat) (M' : zz_M) : Prop := Cond.methodLink own idx M'.1 ∈ zz_tbl ∧ Cond.instanceMethod M'.1 ∈ zz_tbl ∧ Cond.selects M'.1.cls M'.1 M'.1 ∈ zz_tbl
def zz_LS (own : String) (idx : Nat) (M' : zz_M) : Prop := Cond.methodLink own idx M'.1 ∈ zz_tbl ∧ Cond.static M'.1 ∈ zz_tbl
def zz_LN (own : String) (idx : Nat) (M' : zz_M) : Prop := (own, idx, M'.1) ∈ zz_nests ∧ Cond.static M'.1 ∈ zz_tbl
/-- a receiver: the cell at b is an object of the class C, whatever the memory -/
def zz_Rcv (sh : Nat → zz_Sh) (G : zz_G) (b : Nat) (C : String) : Prop := ∀ (s : State) (H : Heap) (locs : List Loc) (μ : zz_Mem), zz_Env G s → va_P (zz_D G) zz_cl (zz_wd sh G μ) H → va_S (zz_A G) s.heap H locs → ∃ cell : Cell, H[b]? = some cell ∧ cell.vm.isStatics = false ∧ s.vm.findClass C = some cell.cls
theorem zz_rcv_o {sh : Nat → zz_Sh} {G : zz_G} {k ci n : Nat} {fs : List (Nat × Nat)} {C : String} {T : u_T} (S0 : zz_SH sh G k (4, ci, fs)) (hc : zz_cl[ci]? = some (C, T, n)) : zz_Rcv sh G (zz_a G k) C := by
  intro s H locs μ hE hP _
  obtain ⟨hk, hsh⟩ := S0
  exact va_recv hE.1 hP hc (fs := fs.mapIdx (zz_fld G μ k)) (q0 := k) (by rw [zz_wd_at hk, hsh]; rfl)
theorem zz_rcv_s {sh : Nat → zz_Sh} {G : zz_G} {i : Nat} (hi : i < 30) : zz_Rcv sh G (zz_sk G i) "java/lang/String" := by
  intro s H locs μ hE _ hS
  obtain ⟨cell, h1, h2, h3, -⟩ := (hE.2.2.1.1 i hi).1.kept hS.2.1
  exact ⟨cell, h1, h2, h3⟩
def zz_vI : Int32 × zz_Mem → Option Value := fun q => some (.int q.1)
def zz_vJ : Int64 × zz_Mem → Option Value := fun q => some (.long q.1)
def zz_vV : zz_Mem → Option Value := fun _ => none
def zz_vIr : Int32 → Option Value := fun q => some (.int q)
def zz_vJr : Int64 → Option Value := fun q => some (.long q)
def zz_vA (G : zz_G) (k : Nat) : zz_Mem → Option Value := fun _ => some (.ref (zz_a G k))
def zz_m2 {ρ : Type} : ρ × zz_Mem → zz_Mem := Prod.snd
def zz_mV : zz_Mem → zz_Mem := id
def zz_mC {ρ : Type} (μ : zz_Mem) : ρ → zz_Mem := fun _ => μ
section ZC
variable {sh : Nat → zz_Sh} {l : Launch} {G : zz_G} {M M' : zz_M} {d d' : Nat} {τ τ' : Type} {val : τ → Option Value} {mem : τ → zz_Mem} {val' : τ' → Option Value} {mem' : τ' → zz_Mem} {f' : Option τ'} {pc idx n : Nat} {lv : List (Nat × Value)} {st rest As : List Value} {b : Nat} {μ : zz_Mem}
/-- what comes back from a call -/
theorem zz_back {p : Program} {e : Env} {s : State} {m : MethodId} {args : Array Value} {below : List Frame} {meth : Method} {c : Code} {H : Heap} {locs : List Loc} {R : Room} {Q : State → Prop} {pc : Nat} {ls : Array Slot} {st0 rest : List Value} {v : Option Value} {μ' : zz_Mem} {a : Array Value}
    (hr : va_Run p l e R s m args below meth c H locs 0 0 0 0 (F0 m pc ls st0) rest (zz_Post sh G v μ' a) (zz_A G)) (hS : va_S (zz_A G) s.heap H locs)
    (kk : ∀ (H1 : Heap) (locs1 : List Loc), va_P (zz_D G) zz_cl (zz_wd sh G μ') H1 → va_S (zz_A G) s.heap H1 locs1 → W p l e R s m args below meth c H1 locs1 0 0 Q (F0 m (pc + 3) ls (v.toList ++ rest))) : W p l e R s m args below meth c H locs 0 0 Q (F0 m pc ls st0) := by
  intro T hT X
  obtain ⟨v1, st₀, t, T', L, h0, X', hL, e1, e2, ⟨hv, hp, hz, hk⟩, st⟩ := hr T hT X
  cases hv
  rw [h0] at hz hk
  obtain ⟨t2, a1, b1⟩ := kk T'.heap (locs ++ L) (by rw [e1]; exact hp)
    ⟨Nat.le_trans hS.1 (by rw [e1]; exact hz), fun q h1 h2 => by rw [e1, hk q (Nat.lt_of_lt_of_le h1 hS.1) h2]; exact hS.2.1 q h1 h2, fun q hq => by
      rcases List.mem_append.mp hq with h | h
      · exact hS.2.2 q h
      · exact hL q h⟩ T' rfl X'
  exact ⟨t2, st t2 a1, b1⟩
theorem zz_blind (avs : List Value) : FrameBlind (va_Pc avs (zz_Pre sh G μ)) := fun _ _ _ _ q => ⟨q.1, q.2.1.blind, q.2.2⟩
theorem zz_callB {R : Room} {s : State} {args : Array Value} {own : String} (ho : zz_ok M' n) (hw : ∀ w ∈ zz_ws M, w.before args s = true) (hl : Cond.methodLink own idx M'.1 ∈ zz_tbl) (hf : d' + 1 ≤ R.frames) (hlo : 40 * (d' + 1) ≤ R.locals) : CallB R s args own idx M'.1 M'.2.1 M'.2.2.1 M'.2.2.2 (zz_ws M') (zz_rm d') 0 0 n :=
  callB_of n hw (zz_good ho.1) rfl rfl rfl (hw _ (List.mem_cons_of_mem _ ho.2.1)) (hw _ (List.mem_cons_of_mem _ hl)) ho.2.2.1 ⟨hf, by have := ho.2.2.2; show 8 + (M'.2.2.1 + 11) + 40 * d' ≤ R.locals; omega⟩
theorem zs_cV {K : τ' → Option τ} (hcon : zz_Con sh l G M' d' (.ref b :: As) val' mem' f' μ) (hd : decode M.2.1 pc = .ok (.invokevirtual idx, 3)) (L : zz_LV M.1.cls idx M') (ho : zz_ok M' n) (hr : zz_Rcv sh G b M'.1.cls) (hdd : d' + 1 ≤ d) (hn : As.length = n) (hst : As.reverse ++ .ref b :: rest = st) (hW : (rest.map fun v => v.category).sum ≤ 8)
    (k : ∀ q, zz_Sim sh l G M d val mem (K q) (pc + 3) lv ((val' q).toList ++ rest) (mem' q)) : zz_Sim sh l G M d val mem (zz_bndR f' K) pc lv st μ := by
  intro q hq p e s m args below meth c C H locs ls hP hS hl
  cases hf' : f' with
  | none => rw [hf'] at hq; cases hq
  | some q' =>
    rw [hf'] at hq
    have hM := hcon q' hf'
    have hw := C.2.2.2.2.2.1
    obtain ⟨L1, L2, L3⟩ := L
    subst hst
    refine zz_back (va_runV (Ts := zz_ws M) (C := M'.1.cls) (As := As) (rest := rest) ⟨C.1, C.2.1, C.2.2.2.1, C.2.2.2.2.1, hw⟩ hM ⟨zz_callB (M := M) ho hw L1 hdd (by show 40 * (d' + 1) ≤ 40 * d; omega), hw _ (List.mem_cons_of_mem _ L2), hw _ (List.mem_cons_of_mem _ L3)⟩ ⟨zz_blind _, hr s H locs μ C.2.2.2.2.2.2.2 hP hS, fun U hU hWm => ⟨rfl, C.2.2.2.2.2.2.2.warm hWm (locs := locs) (by rw [hU]; exact hS), by rw [hU]; exact hP⟩⟩ rfl hn hl.1 rfl (lv_room hW) hd ⟨Nat.zero_le _, Nat.zero_le _⟩) hS (fun H1 locs1 hP1 hS1 => ?_)
    exact k q' q hq p e s m args below meth c C H1 locs1 ls hP1 hS1 hl
theorem zs_cS {K : τ' → Option τ} (hcon : zz_Con sh l G M' d' As val' mem' f' μ) (hd : decode M.2.1 pc = .ok (.invokestatic idx, 3)) (L : zz_LS M.1.cls idx M') (ho : zz_ok M' n) (hdd : d' + 1 ≤ d) (hn : As.length = n) (hst : As.reverse ++ rest = st) (hW : (rest.map fun v => v.category).sum ≤ 8)
    (k : ∀ q, zz_Sim sh l G M d val mem (K q) (pc + 3) lv ((val' q).toList ++ rest) (mem' q)) : zz_Sim sh l G M d val mem (zz_bndR f' K) pc lv st μ := by
  intro q hq p e s m args below meth c C H locs ls hP hS hl
  cases hf' : f' with
  | none => rw [hf'] at hq; cases hq
  | some q' =>
    rw [hf'] at hq
    have hM := hcon q' hf'
    have hw := C.2.2.2.2.2.1
    obtain ⟨L1, L2⟩ := L
    subst hst
    refine zz_back (va_runS (Ts := zz_ws M) (As := As) (rest := rest) ⟨C.1, C.2.1, C.2.2.2.1, C.2.2.2.2.1, hw⟩ hM ⟨zz_callB (M := M) ho hw L1 hdd (by show 40 * (d' + 1) ≤ 40 * d; omega), hw _ (List.mem_cons_of_mem _ L2)⟩ ⟨zz_blind _, fun U hU hWm => ⟨rfl, C.2.2.2.2.2.2.2.warm hWm (locs := locs) (by rw [hU]; exact hS), by rw [hU]; exact hP⟩⟩ rfl hn hl.1 rfl (lv_room hW) hd ⟨Nat.zero_le _, Nat.zero_le _⟩) hS (fun H1 locs1 hP1 hS1 => ?_)
    exact k q' q hq p e s m args below meth c C H1 locs1 ls hP1 hS1 hl
theorem zs_cN {K : τ' → Option τ} (hcon : zz_Con sh l G M' d' As val' mem' f' μ) (hd : decode M.2.1 pc = .ok (.invokestatic idx, 3)) (L : zz_LN M.1.cls idx M') (ho : zz_ok M' n) (hdd : d' + 1 ≤ d) (hn : As.length = n) (hst : As.reverse ++ rest = st) (hW : (rest.map fun v => v.category).sum ≤ 8)
    (k : ∀ q, zz_Sim sh l G M d val mem (K q) (pc + 3) lv ((val' q).toList ++ rest) (mem' q)) : zz_Sim sh l G M d val mem (zz_bndR f' K) pc lv st μ := by
  intro q hq p e s m args below meth c C H locs ls hP hS hl
  cases hf' : f' with
  | none => rw [hf'] at hq; cases hq
  | some q' =>
    rw [hf'] at hq
    have hM := hcon q' hf'
    have hw := C.2.2.2.2.2.1
    obtain ⟨L1, L2⟩ := L
    subst hst
    refine zz_back (va_runSN (Ts := zz_ws M) (As := As) (rest := rest) ⟨C.1, C.2.1, C.2.2.2.1, C.2.2.2.2.1, hw⟩ hM ⟨va_cnB n hw (zz_good ho.1) rfl rfl rfl (C.2.2.2.2.2.2.2.2.2.2.2 _ L1) (hw _ (List.mem_cons_of_mem _ ho.2.1)) ho.2.2.1 ⟨hdd, by have := ho.2.2.2; show 8 + (M'.2.2.1 + 11) + 40 * d' ≤ 40 * d; omega⟩, hw _ (List.mem_cons_of_mem _ L2), trivial⟩ ⟨zz_blind _, fun U hU hWm => ⟨rfl, C.2.2.2.2.2.2.2.warm hWm (locs := locs) (by rw [hU]; exact hS), by rw [hU]; exact hP⟩⟩ rfl hn hl.1 rfl (lv_room hW) hd ⟨Nat.zero_le _, Nat.zero_le _⟩) hS (fun H1 locs1 hP1 hS1 => ?_)
    exact k q' q hq p e s m args below meth c C H1 locs1 ls hP1 hS1 hl
theorem zs_cV_iW {f' : Option (Int32 × zz_Mem)} {K : Int32 → zz_Mem → Option τ} (hcon : zz_Con sh l G M' d' (.ref b :: As) zz_vI zz_m2 f' μ) (hd : decode M.2.1 pc = .ok (.invokevirtual idx, 3)) (L : zz_LV M.1.cls idx M') (ho : zz_ok M' n) (hr : zz_Rcv sh G b M'.1.cls) (hdd : d' + 1 ≤ d) (hn : As.length = n) (hst : As.reverse ++ .ref b :: rest = st) (hW : (rest.map fun v => v.category).sum ≤ 8) (k : ∀ (r : Int32) (m1 : zz_Mem), zz_Sim sh l G M d val mem (K r m1) (pc + 3) lv (.int r :: rest) m1) : zz_Sim sh l G M d val mem (zz_bnd f' K) pc lv st μ :=
  zs_cV hcon hd L ho hr hdd hn hst hW (fun q => k q.1 q.2)
theorem zs_cV_jW {f' : Option (Int64 × zz_Mem)} {K : Int64 → zz_Mem → Option τ} (hcon : zz_Con sh l G M' d' (.ref b :: As) zz_vJ zz_m2 f' μ) (hd : decode M.2.1 pc = .ok (.invokevirtual idx, 3)) (L : zz_LV M.1.cls idx M') (ho : zz_ok M' n) (hr : zz_Rcv sh G b M'.1.cls) (hdd : d' + 1 ≤ d) (hn : As.length = n) (hst : As.reverse ++ .ref b :: rest = st) (hW : (rest.map fun v => v.category).sum ≤ 8) (k : ∀ (r : Int64) (m1 : zz_Mem), zz_Sim sh l G M d val mem (K r m1) (pc + 3) lv (.long r :: rest) m1) : zz_Sim sh l G M d val mem (zz_bnd f' K) pc lv st μ :=
  zs_cV hcon hd L ho hr hdd hn hst hW (fun q => k q.1 q.2)
theorem zs_cV_vW {f' : Option (zz_Mem)} {K : zz_Mem → Option τ} (hcon : zz_Con sh l G M' d' (.ref b :: As) zz_vV zz_mV f' μ) (hd : decode M.2.1 pc = .ok (.invokevirtual idx, 3)) (L : zz_LV M.1.cls idx M') (ho : zz_ok M' n) (hr : zz_Rcv sh G b M'.1.cls) (hdd : d' + 1 ≤ d) (hn : As.length = n) (hst : As.reverse ++ .ref b :: rest = st) (hW : (rest.map fun v => v.category).sum ≤ 8) (k : ∀ (m1 : zz_Mem), zz_Sim sh l G M d val mem (K m1) (pc + 3) lv rest m1) : zz_Sim sh l G M d val mem (zz_bndR f' K) pc lv st μ :=
  zs_cV hcon hd L ho hr hdd hn hst hW (fun q => k q)
theorem zs_cV_iR {f' : Option (Int32)} {K : Int32 → Option τ} (hcon : zz_Con sh l G M' d' (.ref b :: As) zz_vIr (zz_mC μ) f' μ) (hd : decode M.2.1 pc = .ok (.invokevirtual idx, 3)) (L : zz_LV M.1.cls idx M') (ho : zz_ok M' n) (hr : zz_Rcv sh G b M'.1.cls) (hdd : d' + 1 ≤ d) (hn : As.length = n) (hst : As.reverse ++ .ref b :: rest = st) (hW : (rest.map fun v => v.category).sum ≤ 8) (k : ∀ (r : Int32), zz_Sim sh l G M d val mem (K r) (pc + 3) lv (.int r :: rest) μ) : zz_Sim sh l G M d val mem (zz_bndR f' K) pc lv st μ :=
  zs_cV hcon hd L ho hr hdd hn hst hW (fun q => k q)
theorem zs_cV_jR {f' : Option (Int64)} {K : Int64 → Option τ} (hcon : zz_Con sh l G M' d' (.ref b :: As) zz_vJr (zz_mC μ) f' μ) (hd : decode M.2.1 pc = .ok (.invokevirtual idx, 3)) (L : zz_LV M.1.cls idx M') (ho : zz_ok M' n) (hr : zz_Rcv sh G b M'.1.cls) (hdd : d' + 1 ≤ d) (hn : As.length = n) (hst : As.reverse ++ .ref b :: rest = st) (hW : (rest.map fun v => v.category).sum ≤ 8) (k : ∀ (r : Int64), zz_Sim sh l G M d val mem (K r) (pc + 3) lv (.long r :: rest) μ) : zz_Sim sh l G M d val mem (zz_bndR f' K) pc lv st μ :=
  zs_cV hcon hd L ho hr hdd hn hst hW (fun q => k q)
theorem zs_cV_aW {ka : Nat} {f' : Option (zz_Mem)} {K : zz_Mem → Option τ} (hcon : zz_Con sh l G M' d' (.ref b :: As) (zz_vA G ka) zz_mV f' μ) (hd : decode M.2.1 pc = .ok (.invokevirtual idx, 3)) (L : zz_LV M.1.cls idx M') (ho : zz_ok M' n) (hr : zz_Rcv sh G b M'.1.cls) (hdd : d' + 1 ≤ d) (hn : As.length = n) (hst : As.reverse ++ .ref b :: rest = st) (hW : (rest.map fun v => v.category).sum ≤ 8) (k : ∀ (m1 : zz_Mem), zz_Sim sh l G M d val mem (K m1) (pc + 3) lv (.ref (zz_a G ka) :: rest) m1) : zz_Sim sh l G M d val mem (zz_bndR f' K) pc lv st μ :=
  zs_cV hcon hd L ho hr hdd hn hst hW (fun q => k q)
theorem zs_cS_iW {f' : Option (Int32 × zz_Mem)} {K : Int32 → zz_Mem → Option τ} (hcon : zz_Con sh l G M' d' As zz_vI zz_m2 f' μ) (hd : decode M.2.1 pc = .ok (.invokestatic idx, 3)) (L : zz_LS M.1.cls idx M') (ho : zz_ok M' n) (hdd : d' + 1 ≤ d) (hn : As.length = n) (hst : As.reverse ++ rest = st) (hW : (rest.map fun v => v.category).sum ≤ 8) (k : ∀ (r : Int32) (m1 : zz_Mem), zz_Sim sh l G M d val mem (K r m1) (pc + 3) lv (.int r :: rest) m1) : zz_Sim sh l G M d val mem (zz_bnd f' K) pc lv st μ :=
  zs_cS hcon hd L ho hdd hn hst hW (fun q => k q.1 q.2)
theorem zs_cS_jW {f' : Option (Int64 × zz_Mem)} {K : Int64 → zz_Mem → Option τ} (hcon : zz_Con sh l G M' d' As zz_vJ zz_m2 f' μ) (hd : decode M.2.1 pc = .ok (.invokestatic idx, 3)) (L : zz_LS M.1.cls idx M') (ho : zz_ok M' n) (hdd : d' + 1 ≤ d) (hn : As.length = n) (hst : As.reverse ++ rest = st) (hW : (rest.map fun v => v.category).sum ≤ 8) (k : ∀ (r : Int64) (m1 : zz_Mem), zz_Sim sh l G M d val mem (K r m1) (pc + 3) lv (.long r :: rest) m1) : zz_Sim sh l G M d val mem (zz_bnd f' K) pc lv st μ :=
  zs_cS hcon hd L ho hdd hn hst hW (fun q => k q.1 q.2)
theorem zs_cS_vW {f' : Option (zz_Mem)} {K : zz_Mem → Option τ} (hcon : zz_Con sh l G M' d' As zz_vV zz_mV f' μ) (hd : decode M.2.1 pc = .ok (.invokestatic idx, 3)) (L : zz_LS M.1.cls idx M') (ho : zz_ok M' n) (hdd : d' + 1 ≤ d) (hn : As.length = n) (hst : As.reverse ++ rest = st) (hW : (rest.map fun v => v.category).sum ≤ 8) (k : ∀ (m1 : zz_Mem), zz_Sim sh l G M d val mem (K m1) (pc + 3) lv rest m1) : zz_Sim sh l G M d val mem (zz_bndR f' K) pc lv st μ :=
  zs_cS hcon hd L ho hdd hn hst hW (fun q => k q)
theorem zs_cS_iR {f' : Option (Int32)} {K : Int32 → Option τ} (hcon : zz_Con sh l G M' d' As zz_vIr (zz_mC μ) f' μ) (hd : decode M.2.1 pc = .ok (.invokestatic idx, 3)) (L : zz_LS M.1.cls idx M') (ho : zz_ok M' n) (hdd : d' + 1 ≤ d) (hn : As.length = n) (hst : As.reverse ++ rest = st) (hW : (rest.map fun v => v.category).sum ≤ 8) (k : ∀ (r : Int32), zz_Sim sh l G M d val mem (K r) (pc + 3) lv (.int r :: rest) μ) : zz_Sim sh l G M d val mem (zz_bndR f' K) pc lv st μ :=
  zs_cS hcon hd L ho hdd hn hst hW (fun q => k q)
theorem zs_cS_jR {f' : Option (Int64)} {K : Int64 → Option τ} (hcon : zz_Con sh l G M' d' As zz_vJr (zz_mC μ) f' μ) (hd : decode M.2.1 pc = .ok (.invokestatic idx, 3)) (L : zz_LS M.1.cls idx M') (ho : zz_ok M' n) (hdd : d' + 1 ≤ d) (hn : As.length = n) (hst : As.reverse ++ rest = st) (hW : (rest.map fun v => v.category).sum ≤ 8) (k : ∀ (r : Int64), zz_Sim sh l G M d val mem (K r) (pc + 3) lv (.long r :: rest) μ) : zz_Sim sh l G M d val mem (zz_bndR f' K) pc lv st μ :=
  zs_cS hcon hd L ho hdd hn hst hW (fun q => k q)
theorem zs_cS_aW {ka : Nat} {f' : Option (zz_Mem)} {K : zz_Mem → Option τ} (hcon : zz_Con sh l G M' d' As (zz_vA G ka) zz_mV f' μ) (hd : decode M.2.1 pc = .ok (.invokestatic idx, 3)) (L : zz_LS M.1.cls idx M') (ho : zz_ok M' n) (hdd : d' + 1 ≤ d) (hn : As.length = n) (hst : As.reverse ++ rest = st) (hW : (rest.map fun v => v.category).sum ≤ 8) (k : ∀ (m1 : zz_Mem), zz_Sim sh l G M d val mem (K m1) (pc + 3) lv (.ref (zz_a G ka) :: rest) m1) : zz_Sim sh l G M d val mem (zz_bndR f' K) pc lv st μ :=
  zs_cS hcon hd L ho hdd hn hst hW (fun q => k q)
theorem zs_cN_iR {f' : Option (Int32)} {K : Int32 → Option τ} (hcon : zz_Con sh l G M' d' As zz_vIr (zz_mC μ) f' μ) (hd : decode M.2.1 pc = .ok (.invokestatic idx, 3)) (L : zz_LN M.1.cls idx M') (ho : zz_ok M' n) (hdd : d' + 1 ≤ d) (hn : As.length = n) (hst : As.reverse ++ rest = st) (hW : (rest.map fun v => v.category).sum ≤ 8) (k : ∀ (r : Int32), zz_Sim sh l G M d val mem (K r) (pc + 3) lv (.int r :: rest) μ) : zz_Sim sh l G M d val mem (zz_bndR f' K) pc lv st μ :=
  zs_cN hcon hd L ho hdd hn hst hW (fun q => k q)
end ZC
