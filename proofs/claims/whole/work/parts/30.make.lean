/-! ===== making: constructors, over worlds that grow ===== -/
def zA_AO (U : State) : Prop := ∀ C ∈ ["PillarDesk$Stand", "PillarDesk$Tray", "PillarDesk$Plan"], va_AO C U
def zA_Env (E : zz_G) (U : State) : Prop := va_K (zz_D E) zz_cl (zz_tys E) U ∧ zz_Cst E U U.heap ∧ zz_Lnk E U ∧ zz_Nst U ∧ zA_AO U ∧ ∀ q, U.heap.size ≤ q → zz_A E q
def zA_rm (d mc ms : Nat) : Room := { frames := d, cells := mc, slots := ms, locals := 40 * d }
def zA_Ctx (p : Program) (E : zz_G) (M : zz_M) (ws0 : va_W) (s : State) (m : MethodId) (args : Array Value) (meth : Method) (c : Code) : Prop :=
  p.tables.exec = Jvm.exec ∧ c.code = M.2.1 ∧ meth.sig.returnType = M.2.2.2 ∧ c.maxLocals = M.2.2.1 ∧ s.vm.findClass M.1.cls = some m.cls ∧ (∀ w ∈ zz_ws M, w.before args s = true) ∧ meth.locks = false ∧ meth.name = M.1.name ∧ zA_Env E s ∧ va_D (zz_A E) ws0
def zA_Post (E : zz_G) (ws0 : va_W) (B : va_W → Prop) (rv : Option Value) (sz : Nat) : Array Value → State → Outcome → State → Prop := fun _ st o t => o = .returned rv ∧ (∃ ws', B ws' ∧ va_P (zz_D E) zz_cl ws' t.heap ∧ va_D (va_A ws0 sz) ws') ∧ va_F (va_A ws0 sz) st t
def zA_Con (l : Launch) (E : zz_G) (M : zz_M) (d mc ms : Nat) (avs : List Value) (ws0 : va_W) (B : va_W → Prop) (rv : Option Value) : Prop :=
  ∀ sz, Met l M.1 (zz_ws M) (zA_rm d mc ms) (va_Pc avs (fun U => U.heap.size = sz ∧ zA_Env E U ∧ va_P (zz_D E) zz_cl ws0 U.heap ∧ va_D (zz_A E) ws0)) (zA_Post E ws0 B rv sz) mc ms (va_A ws0 sz)
def zA_Sim (l : Launch) (E : zz_G) (M : zz_M) (d mc ms : Nat) (ws0 : va_W) (B : va_W → Prop) (rv : Option Value) (cs sl pc : Nat) (lv : List (Nat × Value)) (st : List Value) (ws : va_W) : Prop :=
  ∀ (p : Program) (e : Env) (s : State) (m : MethodId) (args : Array Value) (below : List Frame) (meth : Method) (c : Code), zA_Ctx p E M ws0 s m args meth c → ∀ (H : Heap) (locs : List Loc) (ls : Array Slot), va_P (zz_D E) zz_cl ws H → va_D (va_A ws0 s.heap.size) ws → va_S (va_A ws0 s.heap.size) s.heap H locs → lv_has ls M.2.2.1 lv →
    W p l e (zA_rm d mc ms) s m args below meth c H locs cs sl (MQ below (zA_Post E ws0 B rv s.heap.size) args s mc ms (va_A ws0 s.heap.size)) (F0 m pc ls st)
theorem zA_le {E : zz_G} {ws0 : va_W} {s : State} (h : zA_Env E s) (hD : va_D (zz_A E) ws0) : ∀ q, va_A ws0 s.heap.size q → zz_A E q := by
  intro q hq
  rcases hq with ⟨k, e, h1⟩ | h1
  · exact hD.2 k (q, e) h1
  · exact h.2.2.2.2.2 q h1
theorem zA_obj : Cond.instanceMethod objectInit ∈ zz_tbl ∧ Cond.code objectInit ⟨#[0xb1]⟩ 1 none ∈ zz_tbl := ⟨zz_mem 156 (by decide +kernel) rfl, zz_mem 157 (by decide +kernel) rfl⟩
theorem zA_arrI : Cond.arrayClass .int ∈ zz_tbl := zz_mem 207 (by decide +kernel) rfl
theorem zA_arrJ : Cond.arrayClass .long ∈ zz_tbl := zz_mem 505 (by decide +kernel) rfl
theorem zA_arrB : Cond.arrayClass .byte ∈ zz_tbl := zz_mem 206 (by decide +kernel) rfl
theorem zA_arrZ : Cond.arrayClass .boolean ∈ zz_tbl := zz_mem 1638 (by decide +kernel) rfl
section ZA
variable {l : Launch} {E : zz_G} {M M' : zz_M} {d d' mc ms mc' ms' : Nat} {ws0 ws ws2 : va_W} {B : va_W → Prop} {rv : Option Value} {cs sl pc idx : Nat} {lv : List (Nat × Value)} {st rest : List Value}
theorem zA_con {avs : List Value} (hy : plainFor M.1 = true) (hlen : (lg_sl avs).length ≤ M.2.2.1) (hlv : lv_args 0 avs = lv) (k : zA_Sim l E M d mc ms ws0 B rv 0 0 0 lv [] ws0) : zA_Con l E M d mc ms avs ws0 B rv := by
  intro sz
  subst hlv
  refine zz_ofW (cc := M.2.1) (maxL := M.2.2.1) (ret := M.2.2.2) hy rfl ?_
  intro p e s m args below meth c s₁ Bd hml hv
  obtain ⟨rfl, rfl, hE, hP, hD⟩ := hv
  have hl := lv_entry avs (n := M.2.2.1) hlen
  rw [lg_entry_eq]
  exact k p e s m _ below meth c ⟨Bd.exec, Bd.bytes, Bd.returns, hml, findClass_of_methodNamed Bd.named, atoms_spec (ws := zz_ws M) Bd.pre, Bd.notSynchronized, (name_of_methodNamed Bd.named Bd.method).1, hE, hD⟩ s.heap [] _ hP hD.self va_S.rf hl
theorem zA_eq (h : ws = ws2) (k : zA_Sim l E M d mc ms ws0 B rv cs sl pc lv st ws2) : zA_Sim l E M d mc ms ws0 B rv cs sl pc lv st ws := h ▸ k
theorem zA_cnt {cs2 sl2 : Nat} (h : cs = cs2) (h2 : sl = sl2) (k : zA_Sim l E M d mc ms ws0 B rv cs2 sl2 pc lv st ws) : zA_Sim l E M d mc ms ws0 B rv cs sl pc lv st ws := by subst h; subst h2; exact k
theorem zA_sub {lv' : List (Nat × Value)} (ks : List Nat) (h : lv_pick lv ks = lv') (k : zA_Sim l E M d mc ms ws0 B rv cs sl pc lv' st ws) : zA_Sim l E M d mc ms ws0 B rv cs sl pc lv st ws := fun p e s m args below meth c C H locs ls hP hD hS hl => k p e s m args below meth c C H locs ls hP hD hS (lv_sub hl ks h)
theorem zA_aload_n {j : Fin 4} {i x : Nat} (hd : decode M.2.1 pc = .ok (.aload_n j, 1)) (hi : (j : Nat) = i) (pl : Nat) (hl0 : lv[pl]? = some (i, .ref x)) (k : zA_Sim l E M d mc ms ws0 B rv cs sl (pc + 1) lv (.ref x :: st) ws) : zA_Sim l E M d mc ms ws0 B rv cs sl pc lv st ws :=
  fun p e s m args below meth c C H locs ls hP hD hS hl => lv_aload_n C.1 C.2.1 hd hi (lv_at hl pl hl0) (k p e s m args below meth c C H locs ls hP hD hS hl)
theorem zA_iload_n {j : Fin 4} {i : Nat} {x : Int32} (hd : decode M.2.1 pc = .ok (.iload_n j, 1)) (hi : (j : Nat) = i) (pl : Nat) (hl0 : lv[pl]? = some (i, .int x)) (k : zA_Sim l E M d mc ms ws0 B rv cs sl (pc + 1) lv (.int x :: st) ws) : zA_Sim l E M d mc ms ws0 B rv cs sl pc lv st ws :=
  fun p e s m args below meth c C H locs ls hP hD hS hl => lv_iload_n C.1 C.2.1 hd hi (lv_at hl pl hl0) (k p e s m args below meth c C H locs ls hP hD hS hl)
theorem zA_iconst {n : Int} {v : Int32} (hd : decode M.2.1 pc = .ok (.iconst n, 1)) (hv : Int32.ofInt n = v) (k : zA_Sim l E M d mc ms ws0 B rv cs sl (pc + 1) lv (.int v :: st) ws) : zA_Sim l E M d mc ms ws0 B rv cs sl pc lv st ws := fun p e s m args below meth c C H locs ls hP hD hS hl => lv_iconst C.1 C.2.1 hd hv (k p e s m args below meth c C H locs ls hP hD hS hl)
theorem zA_bipush {n : Int} {v : Int32} (hd : decode M.2.1 pc = .ok (.bipush n, 2)) (hv : (Int8.ofInt n).toInt32 = v) (k : zA_Sim l E M d mc ms ws0 B rv cs sl (pc + 2) lv (.int v :: st) ws) : zA_Sim l E M d mc ms ws0 B rv cs sl pc lv st ws := fun p e s m args below meth c C H locs ls hP hD hS hl => lv_bipush C.1 C.2.1 hd hv (k p e s m args below meth c C H locs ls hP hD hS hl)
theorem zA_sipush {n : Int} {v : Int32} (hd : decode M.2.1 pc = .ok (.sipush n, 3)) (hv : (Int16.ofInt n).toInt32 = v) (k : zA_Sim l E M d mc ms ws0 B rv cs sl (pc + 3) lv (.int v :: st) ws) : zA_Sim l E M d mc ms ws0 B rv cs sl pc lv st ws := fun p e s m args below meth c C H locs ls hP hD hS hl => lv_sipush C.1 C.2.1 hd hv (k p e s m args below meth c C H locs ls hP hD hS hl)
theorem zA_dup {va : Value} (hd : decode M.2.1 pc = .ok (.dup, 1)) (h1 : va.category = 1) (k : zA_Sim l E M d mc ms ws0 B rv cs sl (pc + 1) lv (va :: va :: st) ws) : zA_Sim l E M d mc ms ws0 B rv cs sl pc lv (va :: st) ws := fun p e s m args below meth c C H locs ls hP hD hS hl => lv_dup C.1 C.2.1 hd h1 (k p e s m args below meth c C H locs ls hP hD hS hl)
theorem zA_goto {off : Int} {tgt : Nat} (hd : decode M.2.1 pc = .ok (.goto off, 3)) (ht : (pc : Int) + off = (tgt : Int)) (k : zA_Sim l E M d mc ms ws0 B rv cs sl tgt lv st ws) : zA_Sim l E M d mc ms ws0 B rv cs sl pc lv st ws := fun p e s m args below meth c C H locs ls hP hD hS hl => lv_goto C.1 C.2.1 hd ht (k p e s m args below meth c C H locs ls hP hD hS hl)
theorem zA_istore_n {j : Fin 4} {i : Nat} {x : Int32} (lv' : List (Nat × Value)) (hd : decode M.2.1 pc = .ok (.istore_n j, 1)) (hi : (j : Nat) = i) (hn : i < M.2.2.1) (h0 : (i, Value.int x) :: lv.filter (fun q => !(q.1 == i) && !(q.1 + 1 == i && q.2.category == 2)) = lv') (k : zA_Sim l E M d mc ms ws0 B rv cs sl (pc + 1) lv' st ws) : zA_Sim l E M d mc ms ws0 B rv cs sl pc lv (.int x :: st) ws :=
  fun p e s m args below meth c C H locs ls hP hD hS hl => lv_istore_n C.1 C.2.1 hd hi hl hn h0 (fun ls hl => k p e s m args below meth c C H locs ls hP hD hS hl)
theorem zA_iinc {i : Nat} {n : Int} {x v : Int32} (lv' : List (Nat × Value)) (hd : decode M.2.1 pc = .ok (.iinc i n, 3)) (pl : Nat) (hl0 : lv[pl]? = some (i, .int x)) (hv : x + Int32.ofInt n = v) (hn : i < M.2.2.1) (h0 : (i, Value.int v) :: lv.filter (fun q => !(q.1 == i) && !(q.1 + 1 == i && q.2.category == 2)) = lv') (k : zA_Sim l E M d mc ms ws0 B rv cs sl (pc + 3) lv' st ws) : zA_Sim l E M d mc ms ws0 B rv cs sl pc lv st ws :=
  fun p e s m args below meth c C H locs ls hP hD hS hl => lv_iinc C.1 C.2.1 hd hl hl0 hv hn h0 (fun ls hl => k p e s m args below meth c C H locs ls hP hD hS hl)
/-- a branch on numbers that are known -/
theorem zA_geT {x y : Int32} {off : Int} {tgt : Nat} (hd : decode M.2.1 pc = .ok (.if_icmp .ge off, 3)) (ht : (pc : Int) + off = (tgt : Int)) (h : y ≤ x) (k : zA_Sim l E M d mc ms ws0 B rv cs sl tgt lv st ws) : zA_Sim l E M d mc ms ws0 B rv cs sl pc lv (.int y :: .int x :: st) ws :=
  fun p e s m args below meth c C H locs ls hP hD hS hl => lv_icmp_ge C.1 C.2.1 hd ht (fun _ => k p e s m args below meth c C H locs ls hP hD hS hl) (fun h2 => absurd h h2)
theorem zA_geF {x y : Int32} {off : Int} {tgt : Nat} (hd : decode M.2.1 pc = .ok (.if_icmp .ge off, 3)) (ht : (pc : Int) + off = (tgt : Int)) (h : ¬ y ≤ x) (k : zA_Sim l E M d mc ms ws0 B rv cs sl (pc + 3) lv st ws) : zA_Sim l E M d mc ms ws0 B rv cs sl pc lv (.int y :: .int x :: st) ws :=
  fun p e s m args below meth c C H locs ls hP hD hS hl => lv_icmp_ge C.1 C.2.1 hd ht (fun h2 => absurd h2 h) (fun _ => k p e s m args below meth c C H locs ls hP hD hS hl)
theorem zA_objInit {a : Nat} (hd : decode M.2.1 pc = .ok (.invokespecial idx, 3)) (hl0 : Cond.methodLink M.1.cls idx objectInit ∈ zz_tbl) (h1 : 1 ≤ d) (hW : (st.map fun v => v.category).sum ≤ 8) (k : zA_Sim l E M d mc ms ws0 B rv cs sl (pc + 3) lv st ws) : zA_Sim l E M d mc ms ws0 B rv cs sl pc lv (.ref a :: st) ws := by
  intro p e s m args below meth c C H locs ls hP hD hS hl
  have hw := C.2.2.2.2.2.1
  refine W.objInit C.1 C.2.1 C.2.2.2.2.1 (hw _ (List.mem_cons_of_mem _ hl0)) (hw _ (List.mem_cons_of_mem _ zA_obj.1)) (hw _ (List.mem_cons_of_mem _ zA_obj.2)) rfl (by rw [C.2.2.2.1]; exact hl.1) rfl hd h1 (by have h2 := lv_room (m := m) (pc := pc) (ls := ls) (rest := .ref a :: st) hW; show _ + 12 ≤ 40 * d; omega) ?_
  exact (k p e s m args below meth c C H locs ls hP hD hS hl)
theorem zA_same {ty : FieldType} {cA cB : ClassId} {U : State} (h1 : va_RA U cA ty) (h2 : va_RA U cB ty) : cA = cB := by
  cases ty with
  | object C =>
    obtain ⟨_, _, _, _, _, g1⟩ := h1
    obtain ⟨_, _, _, _, _, g2⟩ := h2
    exact Option.some.inj (g1.symm.trans g2)
  | _ => exact Option.some.inj (Eq.trans (Eq.symm h1) h2)
theorem zA_newI {n : Int32} {N' : Nat} (hd : decode M.2.1 pc = .ok (.newarray .int, 2)) (hn : ¬ n < 0) (hN : n.toNatClampNeg = N') (hb : N' * 8 ≤ 536870912) (hc : cs + 1 ≤ mc) (hs : sl + N' ≤ ms) (k : ∀ q : Nat, zA_Sim l E M d mc ms ws0 B rv (cs + 1) (sl + N') (pc + 2) lv (.ref q :: st) (ws ++ [(q, .inl (zz_c E 0, N', .inl (fun _ => 0)))])) : zA_Sim l E M d mc ms ws0 B rv cs sl pc lv (.int n :: st) ws := by
  intro p e s m args below meth c C H locs ls hP hD hS hl
  have hw := C.2.2.2.2.2.1
  have hA : ∀ q, s.heap.size ≤ q → va_A ws0 s.heap.size q := fun q h => Or.inr h
  refine va_newa (atype := .int) (ty := .int) C.1 C.2.1 (hw _ (List.mem_cons_of_mem _ zA_arrI)) rfl C.2.2.2.2.2.2.2.2.1.1 hP hD hS hA (a0 := (N', .inl (fun _ => 0))) (fun _ => rfl) hn hN (Nat.le_trans (Nat.mul_le_mul_left N' (by decide)) hb) hc hs hd (fun q cA H1 hK1 hP1 hD1 hS1 => ?_)
  have hK0 := C.2.2.2.2.2.2.2.2.1.1
  have e1 : cA = zz_c E 0 := zA_same (ty := .int) (hK1.2 7 (cA, .int) rfl).2 (hK0.2 0 (zz_c E 0, .int) rfl).2
  subst e1
  exact k q p e s m args below meth c C H1 locs ls hP1 hD1 hS1 hl
theorem zA_newJ {n : Int32} {N' : Nat} (hd : decode M.2.1 pc = .ok (.newarray .long, 2)) (hn : ¬ n < 0) (hN : n.toNatClampNeg = N') (hb : N' * 8 ≤ 536870912) (hc : cs + 1 ≤ mc) (hs : sl + N' ≤ ms) (k : ∀ q : Nat, zA_Sim l E M d mc ms ws0 B rv (cs + 1) (sl + N') (pc + 2) lv (.ref q :: st) (ws ++ [(q, .inl (zz_c E 1, N', .inr (.inl (fun _ => 0))))])) : zA_Sim l E M d mc ms ws0 B rv cs sl pc lv (.int n :: st) ws := by
  intro p e s m args below meth c C H locs ls hP hD hS hl
  have hw := C.2.2.2.2.2.1
  have hA : ∀ q, s.heap.size ≤ q → va_A ws0 s.heap.size q := fun q h => Or.inr h
  refine va_newa (atype := .long) (ty := .long) C.1 C.2.1 (hw _ (List.mem_cons_of_mem _ zA_arrJ)) rfl C.2.2.2.2.2.2.2.2.1.1 hP hD hS hA (a0 := (N', .inr (.inl (fun _ => 0)))) (fun _ => rfl) hn hN (Nat.le_trans (Nat.mul_le_mul_left N' (by decide)) hb) hc hs hd (fun q cA H1 hK1 hP1 hD1 hS1 => ?_)
  have hK0 := C.2.2.2.2.2.2.2.2.1.1
  have e1 : cA = zz_c E 1 := zA_same (ty := .long) (hK1.2 7 (cA, .long) rfl).2 (hK0.2 1 (zz_c E 1, .long) rfl).2
  subst e1
  exact k q p e s m args below meth c C H1 locs ls hP1 hD1 hS1 hl
theorem zA_newB {n : Int32} {N' : Nat} (hd : decode M.2.1 pc = .ok (.newarray .byte, 2)) (hn : ¬ n < 0) (hN : n.toNatClampNeg = N') (hb : N' * 8 ≤ 536870912) (hc : cs + 1 ≤ mc) (hs : sl + N' ≤ ms) (k : ∀ q : Nat, zA_Sim l E M d mc ms ws0 B rv (cs + 1) (sl + N') (pc + 2) lv (.ref q :: st) (ws ++ [(q, .inl (zz_c E 2, N', .inl (fun _ => 0)))])) : zA_Sim l E M d mc ms ws0 B rv cs sl pc lv (.int n :: st) ws := by
  intro p e s m args below meth c C H locs ls hP hD hS hl
  have hw := C.2.2.2.2.2.1
  have hA : ∀ q, s.heap.size ≤ q → va_A ws0 s.heap.size q := fun q h => Or.inr h
  refine va_newa (atype := .byte) (ty := .byte) C.1 C.2.1 (hw _ (List.mem_cons_of_mem _ zA_arrB)) rfl C.2.2.2.2.2.2.2.2.1.1 hP hD hS hA (a0 := (N', .inl (fun _ => 0))) (fun _ => rfl) hn hN (Nat.le_trans (Nat.mul_le_mul_left N' (by decide)) hb) hc hs hd (fun q cA H1 hK1 hP1 hD1 hS1 => ?_)
  have hK0 := C.2.2.2.2.2.2.2.2.1.1
  have e1 : cA = zz_c E 2 := zA_same (ty := .byte) (hK1.2 7 (cA, .byte) rfl).2 (hK0.2 2 (zz_c E 2, .byte) rfl).2
  subst e1
  exact k q p e s m args below meth c C H1 locs ls hP1 hD1 hS1 hl
theorem zA_newZ {n : Int32} {N' : Nat} (hd : decode M.2.1 pc = .ok (.newarray .boolean, 2)) (hn : ¬ n < 0) (hN : n.toNatClampNeg = N') (hb : N' * 8 ≤ 536870912) (hc : cs + 1 ≤ mc) (hs : sl + N' ≤ ms) (k : ∀ q : Nat, zA_Sim l E M d mc ms ws0 B rv (cs + 1) (sl + N') (pc + 2) lv (.ref q :: st) (ws ++ [(q, .inl (zz_c E 3, N', .inl (fun _ => 0)))])) : zA_Sim l E M d mc ms ws0 B rv cs sl pc lv (.int n :: st) ws := by
  intro p e s m args below meth c C H locs ls hP hD hS hl
  have hw := C.2.2.2.2.2.1
  have hA : ∀ q, s.heap.size ≤ q → va_A ws0 s.heap.size q := fun q h => Or.inr h
  refine va_newa (atype := .boolean) (ty := .boolean) C.1 C.2.1 (hw _ (List.mem_cons_of_mem _ zA_arrZ)) rfl C.2.2.2.2.2.2.2.2.1.1 hP hD hS hA (a0 := (N', .inl (fun _ => 0))) (fun _ => rfl) hn hN (Nat.le_trans (Nat.mul_le_mul_left N' (by decide)) hb) hc hs hd (fun q cA H1 hK1 hP1 hD1 hS1 => ?_)
  have hK0 := C.2.2.2.2.2.2.2.2.1.1
  have e1 : cA = zz_c E 3 := zA_same (ty := .boolean) (hK1.2 7 (cA, .boolean) rfl).2 (hK0.2 3 (zz_c E 3, .boolean) rfl).2
  subst e1
  exact k q p e s m args below meth c C H1 locs ls hP1 hD1 hS1 hl
theorem zA_newq4 {n : Int32} {N' : Nat} (hd : decode M.2.1 pc = .ok (.anewarray idx, 3)) (hl0 : Cond.classLink M.1.cls idx "PillarDesk$Stand" ∈ zz_tbl) (hn : ¬ n < 0) (hN : n.toNatClampNeg = N') (hb : N' * 4 ≤ 536870912) (hc : cs + 1 ≤ mc) (hs : sl + N' ≤ ms) (k : ∀ q : Nat, zA_Sim l E M d mc ms ws0 B rv (cs + 1) (sl + N') (pc + 3) lv (.ref q :: st) (ws ++ [(q, .inl (zz_c E 4, N', .inr (.inr (.inr (.inr (fun _ => none))))))])) : zA_Sim l E M d mc ms ws0 B rv cs sl pc lv (.int n :: st) ws := by
  intro p e s m args below meth c C H locs ls hP hD hS hl
  have hw := C.2.2.2.2.2.1
  have hA : ∀ q, s.heap.size ≤ q → va_A ws0 s.heap.size q := fun q h => Or.inr h
  refine va_newq C.1 C.2.1 C.2.2.2.2.1 (hw _ (List.mem_cons_of_mem _ hl0)) (C.2.2.2.2.2.2.2.2.1.2.2.2.2.1 "PillarDesk$Stand" (by decide)) C.2.2.2.2.2.2.2.2.1.1 hP hD hS hA hn hN hb hc hs hd (fun q cA H1 hK1 hP1 hD1 hS1 => ?_)
  have hK0 := C.2.2.2.2.2.2.2.2.1.1
  have e1 : cA = zz_c E 4 := zA_same (ty := .object "PillarDesk$Stand") (hK1.2 7 (cA, .object "PillarDesk$Stand") rfl).2 (hK0.2 4 (zz_c E 4, .object "PillarDesk$Stand") rfl).2
  subst e1
  exact k q p e s m args below meth c C H1 locs ls hP1 hD1 hS1 hl
theorem zA_newq5 {n : Int32} {N' : Nat} (hd : decode M.2.1 pc = .ok (.anewarray idx, 3)) (hl0 : Cond.classLink M.1.cls idx "PillarDesk$Tray" ∈ zz_tbl) (hn : ¬ n < 0) (hN : n.toNatClampNeg = N') (hb : N' * 4 ≤ 536870912) (hc : cs + 1 ≤ mc) (hs : sl + N' ≤ ms) (k : ∀ q : Nat, zA_Sim l E M d mc ms ws0 B rv (cs + 1) (sl + N') (pc + 3) lv (.ref q :: st) (ws ++ [(q, .inl (zz_c E 5, N', .inr (.inr (.inr (.inr (fun _ => none))))))])) : zA_Sim l E M d mc ms ws0 B rv cs sl pc lv (.int n :: st) ws := by
  intro p e s m args below meth c C H locs ls hP hD hS hl
  have hw := C.2.2.2.2.2.1
  have hA : ∀ q, s.heap.size ≤ q → va_A ws0 s.heap.size q := fun q h => Or.inr h
  refine va_newq C.1 C.2.1 C.2.2.2.2.1 (hw _ (List.mem_cons_of_mem _ hl0)) (C.2.2.2.2.2.2.2.2.1.2.2.2.2.1 "PillarDesk$Tray" (by decide)) C.2.2.2.2.2.2.2.2.1.1 hP hD hS hA hn hN hb hc hs hd (fun q cA H1 hK1 hP1 hD1 hS1 => ?_)
  have hK0 := C.2.2.2.2.2.2.2.2.1.1
  have e1 : cA = zz_c E 5 := zA_same (ty := .object "PillarDesk$Tray") (hK1.2 7 (cA, .object "PillarDesk$Tray") rfl).2 (hK0.2 5 (zz_c E 5, .object "PillarDesk$Tray") rfl).2
  subst e1
  exact k q p e s m args below meth c C H1 locs ls hP1 hD1 hS1 hl
theorem zA_newq6 {n : Int32} {N' : Nat} (hd : decode M.2.1 pc = .ok (.anewarray idx, 3)) (hl0 : Cond.classLink M.1.cls idx "PillarDesk$Plan" ∈ zz_tbl) (hn : ¬ n < 0) (hN : n.toNatClampNeg = N') (hb : N' * 4 ≤ 536870912) (hc : cs + 1 ≤ mc) (hs : sl + N' ≤ ms) (k : ∀ q : Nat, zA_Sim l E M d mc ms ws0 B rv (cs + 1) (sl + N') (pc + 3) lv (.ref q :: st) (ws ++ [(q, .inl (zz_c E 6, N', .inr (.inr (.inr (.inr (fun _ => none))))))])) : zA_Sim l E M d mc ms ws0 B rv cs sl pc lv (.int n :: st) ws := by
  intro p e s m args below meth c C H locs ls hP hD hS hl
  have hw := C.2.2.2.2.2.1
  have hA : ∀ q, s.heap.size ≤ q → va_A ws0 s.heap.size q := fun q h => Or.inr h
  refine va_newq C.1 C.2.1 C.2.2.2.2.1 (hw _ (List.mem_cons_of_mem _ hl0)) (C.2.2.2.2.2.2.2.2.1.2.2.2.2.1 "PillarDesk$Plan" (by decide)) C.2.2.2.2.2.2.2.2.1.1 hP hD hS hA hn hN hb hc hs hd (fun q cA H1 hK1 hP1 hD1 hS1 => ?_)
  have hK0 := C.2.2.2.2.2.2.2.2.1.1
  have e1 : cA = zz_c E 6 := zA_same (ty := .object "PillarDesk$Plan") (hK1.2 7 (cA, .object "PillarDesk$Plan") rfl).2 (hK0.2 6 (zz_c E 6, .object "PillarDesk$Plan") rfl).2
  subst e1
  exact k q p e s m args below meth c C H1 locs ls hP1 hD1 hS1 hl
/-- what 'new' asks of a class -/
def zA_NW (own : String) (idx ci : Nat) (fs : List Value) : Prop := ∃ (C : String) (T : u_T) (n : Nat), zz_cl[ci]? = some (C, T, n) ∧ Cond.classLink own idx C ∈ zz_tbl ∧ Cond.instantiable C n ∈ zz_tbl ∧ Cond.initialized C ∈ zz_tbl ∧ (∀ w ∈ u_ws C T n, w ∈ zz_tbl) ∧ (∃ ty0 : Nat → FieldType, (∀ k, k < n → parseFieldDescriptor (T k).2.2.1 = some (ty0 k)) ∧ ∀ j, j < n → defaultValue (ty0 j) = vp_V fs j) ∧ n = fs.length
theorem zA_new {ci : Nat} {fs : List Value} (N : zA_NW M.1.cls idx ci fs) (hd : decode M.2.1 pc = .ok (.new idx, 3)) (hc : cs + 1 ≤ mc) (hs : sl + fs.length ≤ ms) (k : ∀ q : Nat, zA_Sim l E M d mc ms ws0 B rv (cs + 1) (sl + fs.length) (pc + 3) lv (.ref q :: st) (ws ++ [(q, .inr (ci, fs))])) : zA_Sim l E M d mc ms ws0 B rv cs sl pc lv st ws := by
  obtain ⟨CC, T, n, h1, h2, h3, h4, h5, ⟨ty0, h6, h7⟩, rfl⟩ := N
  intro p e s m args below meth c C H locs ls hP hD hS hl
  have hw := C.2.2.2.2.2.1
  have hA : ∀ q, s.heap.size ≤ q → va_A ws0 s.heap.size q := fun q h => Or.inr h
  exact va_new (Ts := zz_ws M) C.1 C.2.1 hw (fun w h => List.mem_cons_of_mem _ (h5 w h)) ty0 h6 C.2.2.2.2.1 (hw _ (List.mem_cons_of_mem _ h2)) (hw _ (List.mem_cons_of_mem _ h3)) (hw _ (List.mem_cons_of_mem _ h4)) C.2.2.2.2.2.2.2.2.1.1 hP hD hS hA h1 h7 hc hs hd (fun q H1 hP1 hD1 hS1 => k q p e s m args below meth c C H1 locs ls hP1 hD1 hS1 hl)
theorem zA_put {ci i q0 a : Nat} {ty : FieldType} {fin : Bool} {fs : List Value} {v : Value} (F : zz_FL M.1.cls idx ci i ty fin) (hd : decode M.2.1 pc = .ok (.putfield idx, 3)) (hin : M.1.name = "<init>") (hdecl : ∀ C T n, zz_cl[ci]? = some (C, T, n) → (T i).1 = M.1.cls) (he : ws[q0]? = some (a, .inr (ci, fs))) (hn : narrow ty v = v ∧ fits ty v = true) (hlt : i < fs.length) (h2 : ws.set q0 (a, .inr (ci, fs.set i v)) = ws2) (k : zA_Sim l E M d mc ms ws0 B rv cs sl (pc + 3) lv st ws2) : zA_Sim l E M d mc ms ws0 B rv cs sl pc lv (v :: .ref a :: st) ws := by
  obtain ⟨CC, T, n, h1, h3, h4, h5, ⟨ty0, h6, h6'⟩, h7, h8⟩ := F
  subst h2
  intro p e s m args below meth c C H locs ls hP hD hS hl
  have hw := C.2.2.2.2.2.1
  cases fin with
  | true =>
    exact va_putF (D := zz_D E) (Ts := zz_ws M) C.1 C.2.1 hw (fun w h => List.mem_cons_of_mem _ (h5 w h)) ty0 h6 h7 C.2.2.2.2.1 C.2.2.2.2.2.2.2.2.1.1 hP hD hS q0 he h1 i h3 (hw _ (List.mem_cons_of_mem _ h4)) (fun _ h9 => h9) h8 (C.2.2.2.2.2.2.2.1.trans hin) (hdecl _ _ _ h1) (ty := ty) (by rw [h6 i h3, h6']) hn.1 hn.2 hlt hd (fun H1 locs1 hP1 hD1 hS1 => k p e s m args below meth c C H1 locs1 ls hP1 hD1 hS1 hl)
  | false =>
    exact va_put (D := zz_D E) (Ts := zz_ws M) C.1 C.2.1 hw (fun w h => List.mem_cons_of_mem _ (h5 w h)) ty0 h6 h7 C.2.2.2.2.1 C.2.2.2.2.2.2.2.2.1.1 hP hD hS q0 he h1 i h3 (hw _ (List.mem_cons_of_mem _ h4)) (fun _ h9 => h9) h8 (ty := ty) (by rw [h6 i h3, h6']) hn.1 hn.2 hlt hd (fun H1 locs1 hP1 hD1 hS1 => k p e s m args below meth c C H1 locs1 ls hP1 hD1 hS1 hl)
theorem zA_get {ci i q0 a : Nat} {ty : FieldType} {fin : Bool} {fs : List Value} {v : Value} (F : zz_FL M.1.cls idx ci i ty fin) (hd : decode M.2.1 pc = .ok (.getfield idx, 3)) (he : ws[q0]? = some (a, .inr (ci, fs))) (hv : fs[i]? = some v) (k : zA_Sim l E M d mc ms ws0 B rv cs sl (pc + 3) lv (v :: st) ws) : zA_Sim l E M d mc ms ws0 B rv cs sl pc lv (.ref a :: st) ws := by
  obtain ⟨CC, T, n, h1, h3, h4, h5, ⟨ty0, h6, h6'⟩, h7, h8⟩ := F
  intro p e s m args below meth c C H locs ls hP hD hS hl
  have hw := C.2.2.2.2.2.1
  exact va_get (D := zz_D E) (Ts := zz_ws M) C.1 C.2.1 hw (fun w h => List.mem_cons_of_mem _ (h5 w h)) C.2.2.2.2.1 C.2.2.2.2.2.2.2.2.1.1 hP q0 he h1 i h3 (hw _ (List.mem_cons_of_mem _ h4)) (fun _ h9 => h9) hv hd (k p e s m args below meth c C H locs ls hP hD hS hl)
theorem zA_iast {q0 a n : Nat} {f : Nat → Int32} {i v : Int32} (hd : decode M.2.1 pc = .ok (.iastore, 1)) (he : ws[q0]? = some (a, .inl (zz_c E 0, n, .inl f))) (hin : vp_in i n) (h2 : ws.set q0 (a, .inl (zz_c E 0, n, .inl (upd f i.toNatClampNeg v))) = ws2) (k : zA_Sim l E M d mc ms ws0 B rv cs sl (pc + 1) lv st ws2) : zA_Sim l E M d mc ms ws0 B rv cs sl pc lv (.int v :: .int i :: .ref a :: st) ws := by
  subst h2
  intro p e s m args below meth c C H locs ls hP hD hS hl
  exact va_iast C.1 C.2.1 C.2.2.2.2.2.2.2.2.1.1 hP hD hS q0 0 he rfl hin hd (fun H1 locs1 hP1 hD1 hS1 => k p e s m args below meth c C H1 locs1 ls hP1 hD1 hS1 hl)
theorem zA_alen4 {q0 a n : Nat} {f : Nat → Option Nat} {v : Int32} (hd : decode M.2.1 pc = .ok (.arraylength, 1)) (he : ws[q0]? = some (a, .inl (zz_c E 4, n, .inr (.inr (.inr (.inr (f))))))) (hv : Int32.ofNat n = v) (k : zA_Sim l E M d mc ms ws0 B rv cs sl (pc + 1) lv (.int v :: st) ws) : zA_Sim l E M d mc ms ws0 B rv cs sl pc lv (.ref a :: st) ws :=
  fun p e s m args below meth c C H locs ls hP hD hS hl => va_alen C.1 C.2.1 C.2.2.2.2.2.2.2.2.1.1 hP q0 4 he rfl hv hd (k p e s m args below meth c C H locs ls hP hD hS hl)
theorem zA_aast4 {q0 qk a n v ci : Nat} {vs : List Value} {T : u_T} {nn : Nat} {f : Nat → Option Nat} {i : Int32} (hd : decode M.2.1 pc = .ok (.aastore, 1)) (he : ws[q0]? = some (a, .inl (zz_c E 4, n, .inr (.inr (.inr (.inr (f))))))) (hv : ws[qk]? = some (v, .inr (ci, vs))) (hc : zz_cl[ci]? = some ("PillarDesk$Stand", T, nn)) (hin : vp_in i n) (h2 : ws.set q0 (a, .inl (zz_c E 4, n, .inr (.inr (.inr (.inr (va_up f i.toNatClampNeg (some v))))))) = ws2) (k : zA_Sim l E M d mc ms ws0 B rv cs sl (pc + 1) lv st ws2) : zA_Sim l E M d mc ms ws0 B rv cs sl pc lv (.ref v :: .int i :: .ref a :: st) ws := by
  subst h2
  intro p e s m args below meth c C H locs ls hP hD hS hl
  exact va_astq C.1 C.2.1 C.2.2.2.2.2.2.2.2.1.1 hP hD hS q0 4 qk ci (r := ("PillarDesk$Stand", T, nn)) he rfl hv hc hin hd (fun H1 locs1 hP1 hD1 hS1 => k p e s m args below meth c C H1 locs1 ls hP1 hD1 hS1 hl)
theorem zA_alen5 {q0 a n : Nat} {f : Nat → Option Nat} {v : Int32} (hd : decode M.2.1 pc = .ok (.arraylength, 1)) (he : ws[q0]? = some (a, .inl (zz_c E 5, n, .inr (.inr (.inr (.inr (f))))))) (hv : Int32.ofNat n = v) (k : zA_Sim l E M d mc ms ws0 B rv cs sl (pc + 1) lv (.int v :: st) ws) : zA_Sim l E M d mc ms ws0 B rv cs sl pc lv (.ref a :: st) ws :=
  fun p e s m args below meth c C H locs ls hP hD hS hl => va_alen C.1 C.2.1 C.2.2.2.2.2.2.2.2.1.1 hP q0 5 he rfl hv hd (k p e s m args below meth c C H locs ls hP hD hS hl)
theorem zA_aast5 {q0 qk a n v ci : Nat} {vs : List Value} {T : u_T} {nn : Nat} {f : Nat → Option Nat} {i : Int32} (hd : decode M.2.1 pc = .ok (.aastore, 1)) (he : ws[q0]? = some (a, .inl (zz_c E 5, n, .inr (.inr (.inr (.inr (f))))))) (hv : ws[qk]? = some (v, .inr (ci, vs))) (hc : zz_cl[ci]? = some ("PillarDesk$Tray", T, nn)) (hin : vp_in i n) (h2 : ws.set q0 (a, .inl (zz_c E 5, n, .inr (.inr (.inr (.inr (va_up f i.toNatClampNeg (some v))))))) = ws2) (k : zA_Sim l E M d mc ms ws0 B rv cs sl (pc + 1) lv st ws2) : zA_Sim l E M d mc ms ws0 B rv cs sl pc lv (.ref v :: .int i :: .ref a :: st) ws := by
  subst h2
  intro p e s m args below meth c C H locs ls hP hD hS hl
  exact va_astq C.1 C.2.1 C.2.2.2.2.2.2.2.2.1.1 hP hD hS q0 5 qk ci (r := ("PillarDesk$Tray", T, nn)) he rfl hv hc hin hd (fun H1 locs1 hP1 hD1 hS1 => k p e s m args below meth c C H1 locs1 ls hP1 hD1 hS1 hl)
theorem zA_alen6 {q0 a n : Nat} {f : Nat → Option Nat} {v : Int32} (hd : decode M.2.1 pc = .ok (.arraylength, 1)) (he : ws[q0]? = some (a, .inl (zz_c E 6, n, .inr (.inr (.inr (.inr (f))))))) (hv : Int32.ofNat n = v) (k : zA_Sim l E M d mc ms ws0 B rv cs sl (pc + 1) lv (.int v :: st) ws) : zA_Sim l E M d mc ms ws0 B rv cs sl pc lv (.ref a :: st) ws :=
  fun p e s m args below meth c C H locs ls hP hD hS hl => va_alen C.1 C.2.1 C.2.2.2.2.2.2.2.2.1.1 hP q0 6 he rfl hv hd (k p e s m args below meth c C H locs ls hP hD hS hl)
theorem zA_aast6 {q0 qk a n v ci : Nat} {vs : List Value} {T : u_T} {nn : Nat} {f : Nat → Option Nat} {i : Int32} (hd : decode M.2.1 pc = .ok (.aastore, 1)) (he : ws[q0]? = some (a, .inl (zz_c E 6, n, .inr (.inr (.inr (.inr (f))))))) (hv : ws[qk]? = some (v, .inr (ci, vs))) (hc : zz_cl[ci]? = some ("PillarDesk$Plan", T, nn)) (hin : vp_in i n) (h2 : ws.set q0 (a, .inl (zz_c E 6, n, .inr (.inr (.inr (.inr (va_up f i.toNatClampNeg (some v))))))) = ws2) (k : zA_Sim l E M d mc ms ws0 B rv cs sl (pc + 1) lv st ws2) : zA_Sim l E M d mc ms ws0 B rv cs sl pc lv (.ref v :: .int i :: .ref a :: st) ws := by
  subst h2
  intro p e s m args below meth c C H locs ls hP hD hS hl
  exact va_astq C.1 C.2.1 C.2.2.2.2.2.2.2.2.1.1 hP hD hS q0 6 qk ci (r := ("PillarDesk$Plan", T, nn)) he rfl hv hc hin hd (fun H1 locs1 hP1 hD1 hS1 => k p e s m args below meth c C H1 locs1 ls hP1 hD1 hS1 hl)
theorem zA_ret {ws' : va_W} (hd : decode M.2.1 pc = .ok (.return_, 1)) (hr : M.2.2.2 = none) (hc : cs = mc) (hs : sl = ms) (hB : B ws) : zA_Sim l E M d mc ms ws0 B none cs sl pc lv [] ws := by
  subst hc; subst hs
  intro p e s m args below meth c C H locs ls hP hD hS hl
  exact W.vret C.1 C.2.1 (C.2.2.1.trans hr) (fun t ht hW => ⟨rfl, ⟨ws, hB, by rw [ht]; exact hP, hD⟩, hS.F ht⟩) hS.2.2 hd C.2.2.2.2.2.2.1
theorem zA_iret {v : Int32} (hd : decode M.2.1 pc = .ok (.ireturn, 1)) (hr : M.2.2.2 = some .int) (hc : cs = mc) (hs : sl = ms) (hB : B ws) : zA_Sim l E M d mc ms ws0 B (some (.int v)) cs sl pc lv [.int v] ws := by
  subst hc; subst hs
  intro p e s m args below meth c C H locs ls hP hD hS hl
  exact W.iret C.1 C.2.1 (C.2.2.1.trans hr) (fun t ht hW => ⟨rfl, ⟨ws, hB, by rw [ht]; exact hP, hD⟩, hS.F ht⟩) hS.2.2 hd C.2.2.2.2.2.2.1
theorem zA_ltT {x y : Int32} {off : Int} {tgt : Nat} (hd : decode M.2.1 pc = .ok (.if_icmp .lt off, 3)) (ht : (pc : Int) + off = (tgt : Int)) (h : x < y) (k : zA_Sim l E M d mc ms ws0 B rv cs sl tgt lv st ws) : zA_Sim l E M d mc ms ws0 B rv cs sl pc lv (.int y :: .int x :: st) ws :=
  fun p e s m args below meth c C H locs ls hP hD hS hl => lv_icmp_lt C.1 C.2.1 hd ht (fun _ => k p e s m args below meth c C H locs ls hP hD hS hl) (fun h2 => absurd h h2)
theorem zA_if_ltF {x : Int32} {off : Int} {tgt : Nat} (hd : decode M.2.1 pc = .ok (.ifCond .lt off, 3)) (ht : (pc : Int) + off = (tgt : Int)) (h : ¬ x < 0) (k : zA_Sim l E M d mc ms ws0 B rv cs sl (pc + 3) lv st ws) : zA_Sim l E M d mc ms ws0 B rv cs sl pc lv (.int x :: st) ws :=
  fun p e s m args below meth c C H locs ls hP hD hS hl => lv_if_lt C.1 C.2.1 hd ht (fun h2 => absurd h2 h) (fun _ => k p e s m args below meth c C H locs ls hP hD hS hl)
theorem zA_nonnullN {off : Int} (hd : decode M.2.1 pc = .ok (.ifnonnull off, 3)) (k : zA_Sim l E M d mc ms ws0 B rv cs sl (pc + 3) lv st ws) : zA_Sim l E M d mc ms ws0 B rv cs sl pc lv (.null :: st) ws :=
  fun p e s m args below meth c C H locs ls hP hD hS hl => lv_ifnonnullN C.1 C.2.1 hd (k p e s m args below meth c C H locs ls hP hD hS hl)
theorem zA_aald6 {q0 a n : Nat} {f : Nat → Option Nat} {i : Int32} {v : Value} (hd : decode M.2.1 pc = .ok (.aaload, 1)) (he : ws[q0]? = some (a, .inl (zz_c E 6, n, .inr (.inr (.inr (.inr f)))))) (hin : vp_in i n) (hv : va_rf (f i.toNatClampNeg) = v) (k : zA_Sim l E M d mc ms ws0 B rv cs sl (pc + 1) lv (v :: st) ws) : zA_Sim l E M d mc ms ws0 B rv cs sl pc lv (.int i :: .ref a :: st) ws := by
  subst hv
  exact fun p e s m args below meth c C H locs ls hP hD hS hl => va_aldq C.1 C.2.1 C.2.2.2.2.2.2.2.2.1.1 hP q0 6 he (C := "PillarDesk$Plan") rfl hin hd (k p e s m args below meth c C H locs ls hP hD hS hl)
/-- links of constructors -/
def zA_LI (own : String) (idx : Nat) (M' : zz_M) (n : Nat) : Prop := Cond.methodLink own idx M'.1 ∈ zz_tbl ∧ zz_ok M' n ∧ M'.1.name = "<init>" ∧ Cond.instanceMethod M'.1 ∈ zz_tbl ∧ M'.2.2.2 = none
def zA_LIN (own : String) (idx : Nat) (M' : zz_M) (n : Nat) : Prop := (own, idx, M'.1) ∈ zz_nests ∧ zz_ok M' n ∧ M'.1.name = "<init>" ∧ Cond.instanceMethod M'.1 ∈ zz_tbl ∧ M'.2.2.2 = none
theorem zA_blind (avs : List Value) {sz : Nat} {w0 : va_W} : FrameBlind (va_Pc avs (fun U => U.heap.size = sz ∧ zA_Env E U ∧ va_P (zz_D E) zz_cl w0 U.heap ∧ va_D (zz_A E) w0)) := fun a U g mk q => ⟨q.1, q.2.1, ⟨va_K.moved (u := U) (U := U.calling g mk a) (Vm.Alike.refl U.vm) q.2.2.1.1, q.2.2.1.2.1.moved (u := U) (U := U.calling g mk a) (Vm.Alike.refl U.vm), fun z hz => vk_R.same (u := U) (U := U.calling g mk a) rfl (q.2.2.1.2.2.1 z hz), fun z hz => va_Nw.same (u := U) (U := U.calling g mk a) rfl rfl (q.2.2.1.2.2.2.1 z hz), fun z hz => va_AO.moved (u := U) (U := U.calling g mk a) (Vm.Alike.refl U.vm) (q.2.2.1.2.2.2.2.1 z hz), q.2.2.1.2.2.2.2.2⟩, q.2.2.2⟩
theorem zA_warm {s U : State} {locs : List Loc} {w0 : va_W} (hW : s.WarmedH U.vm) (hE : zA_Env E s) (hD0 : va_D (zz_A E) w0) (hS : va_S (va_A w0 s.heap.size) s.heap U.heap locs) : zA_Env E U :=
  ⟨va_K.moved hW.alike hE.1, (hE.2.1.moved hW.alike).kept (fun a h1 h2 => hS.2.1 a h1 (fun z => h2 (zA_le hE hD0 a z))), hE.2.2.1.warm hW, hE.2.2.2.1.warm hW, fun z hz => va_AO.moved hW.alike (hE.2.2.2.2.1 z hz), fun q h => hE.2.2.2.2.2 q (Nat.le_trans hS.1 h)⟩
theorem zA_join {wr : va_W} {b : Nat} {ee : va_E} {H H1 : Heap} {A0 : Nat → Prop} {w1 : va_W} (hP : va_P (zz_D E) zz_cl (wr ++ [(b, ee)]) H) (hD : va_D A0 (wr ++ [(b, ee)])) (hF : ∀ q, va_A [(b, ee)] H.size q → A0 q) (hk : ∀ q : Nat, q < H.size → ¬ va_A [(b, ee)] H.size q → H1[q]? = H[q]?) (hP1 : va_P (zz_D E) zz_cl w1 H1) (hD1 : va_D (va_A [(b, ee)] H.size) w1) : va_P (zz_D E) zz_cl (wr ++ w1) H1 ∧ va_D A0 (wr ++ w1) := by
  have hn : ∀ n, va_nd (List.range n) = true := by
    intro n
    have h := List.nodup_range (n := n)
    revert h
    generalize List.range n = xs
    intro h
    induction xs with
    | nil => rfl
    | cons x xs ih =>
      have h2 := List.nodup_cons.mp h
      simp only [va_nd, Bool.and_eq_true, Bool.not_eq_true']
      refine ⟨?_, ih h2.2⟩
      simpa using h2.1
  refine va_join (isC := [wr.length]) (isR := List.range wr.length) hP hD ?_ ?_ (hn _) ?_ hk hF hP1 hD1
  · simp
  · apply List.ext_getElem?
    intro j
    rw [List.getElem?_map, List.getElem?_map]
    by_cases hj : j < wr.length
    · rw [List.getElem?_range hj]
      simp [List.getElem?_append, hj]
    · rw [List.getElem?_eq_none (by simpa using hj), List.getElem?_eq_none (by omega)]
      rfl
  · intro i hi h2
    have := List.mem_range.mp hi
    simp at h2
    omega
theorem zA_call {wr : va_W} {b n : Nat} {ee : va_E} {As : List Value} {B' : va_W → Prop} (hcon : zA_Con l E M' d' mc' ms' (.ref b :: As) [(b, ee)] B' none) (hd : decode M.2.1 pc = .ok (.invokespecial idx, 3)) (L : zA_LI M.1.cls idx M' n) (hdd : d' + 1 ≤ d) (hn : As.length = n) (hst : As.reverse ++ .ref b :: rest = st) (hW : (rest.map fun v => v.category).sum ≤ 8) (hc : cs + mc' ≤ mc) (hs : sl + ms' ≤ ms)
    (k : ∀ ws', B' ws' → zA_Sim l E M d mc ms ws0 B rv (cs + mc') (sl + ms') (pc + 3) lv rest (wr ++ ws')) : zA_Sim l E M d mc ms ws0 B rv cs sl pc lv st (wr ++ [(b, ee)]) := by
  intro p e s m args below meth c C H locs ls hP hD hS hl
  obtain ⟨L1, L2, L3, L4, L5⟩ := L
  have hw := C.2.2.2.2.2.1
  subst hst
  have hM := hcon H.size
  have hws : zz_ws M' = Cond.code M'.1 M'.2.1 M'.2.2.1 none :: zz_tbl := by unfold zz_ws; rw [L5]
  have hb1 : (wr ++ [(b, ee)])[wr.length]? = some (b, ee) := by simp
  have hbA : va_A ws0 s.heap.size b := hD.2 _ _ hb1
  have hF : ∀ q, va_A [(b, ee)] H.size q → va_A ws0 s.heap.size q := by
    intro q hq
    rcases hq with ⟨k2, e2, h2⟩ | h2
    · have h3 : (b, ee) = (q, e2) := by
        cases k2 with
        | zero => exact Option.some.inj h2
        | succ k3 => simp at h2
      cases h3
      exact hbA
    · exact Or.inr (Nat.le_trans hS.1 h2)
  have hE := C.2.2.2.2.2.2.2.2.1
  have hD0 := C.2.2.2.2.2.2.2.2.2
  have hPb : va_P (zz_D E) zz_cl [(b, ee)] H := by
    intro k2 q2 h2
    cases k2 with
    | zero =>
      obtain rfl := Option.some.inj h2
      exact hP _ _ hb1
    | succ k3 => simp at h2
  have hDb : va_D (zz_A E) [(b, ee)] := by
    refine ⟨fun i j p1 q1 h1 h2 _ => ?_, fun k2 q2 h2 => ?_⟩
    · have h3 := (List.getElem?_eq_some_iff.mp h1).1
      have h4 := (List.getElem?_eq_some_iff.mp h2).1
      simp at h3 h4
      omega
    · cases k2 with
      | zero =>
        obtain rfl := Option.some.inj h2
        exact zA_le hE hD0 _ hbA
      | succ k3 => simp at h2
  intro T hT X
  have hlo : 8 + (M'.2.2.1 + 11) + 40 * d' ≤ 40 * d := by
    have := L2.2.2.2
    omega
  have hr := va_runI (R := zA_rm d mc ms) (p := p) (e := e) (below := below) (meth := meth) (H := H) (locs := locs) (cells := cs) (slots := sl) (Ts := zz_ws M) (As := As) (rest := rest) (g := F0 m pc ls (As.reverse ++ .ref b :: rest)) ⟨C.1, C.2.1, C.2.2.2.1, C.2.2.2.2.1, hw⟩ hM ⟨callB_of (bytes := M'.2.1) (maxL := M'.2.2.1) (ret := none) n hw (zz_good L2.1) hws rfl rfl (hw _ (List.mem_cons_of_mem _ L2.2.1)) (hw _ (List.mem_cons_of_mem _ L1)) L2.2.2.1 ⟨hdd, hlo⟩, L3, hw _ (List.mem_cons_of_mem _ L4)⟩ ⟨zA_blind _, fun U hU hWm => ⟨rfl, by rw [hU], zA_warm hWm hE hD0 (locs := locs) (by rw [hU]; exact hS), by rw [hU]; exact hPb, hDb⟩⟩ rfl hn hl.1 rfl (lv_room hW) hd ⟨hc, hs⟩ T hT X
  obtain ⟨v1, st₀, t, T', L, h0, X', hL, e1, e2, ⟨hv, ⟨ws', hB', hP1, hD1⟩, hz, hk⟩, st⟩ := hr
  cases hv
  rw [h0] at hz hk
  obtain ⟨hPj, hDj⟩ := zA_join hP hD hF (fun q h1 h2 => hk q h1 h2) hP1 hD1
  obtain ⟨t2, a1, b1⟩ := k ws' hB' p e s m args below meth c C T'.heap (locs ++ L) ls (by rw [e1]; exact hPj) hDj
    ⟨Nat.le_trans hS.1 (by rw [e1]; exact hz), fun q h1 h2 => by rw [e1, hk q (Nat.lt_of_lt_of_le h1 hS.1) (fun z => h2 (hF q z))]; exact hS.2.1 q h1 h2, fun q hq => by
      rcases List.mem_append.mp hq with h | h
      · exact hS.2.2 q h
      · exact hF _ (hL q h)⟩ hl T' rfl X'
  exact ⟨t2, st t2 a1, b1⟩
theorem zA_callN {wr : va_W} {b n : Nat} {ee : va_E} {As : List Value} {B' : va_W → Prop} (hcon : zA_Con l E M' d' mc' ms' (.ref b :: As) [(b, ee)] B' none) (hd : decode M.2.1 pc = .ok (.invokespecial idx, 3)) (L : zA_LIN M.1.cls idx M' n) (hdd : d' + 1 ≤ d) (hn : As.length = n) (hst : As.reverse ++ .ref b :: rest = st) (hW : (rest.map fun v => v.category).sum ≤ 8) (hc : cs + mc' ≤ mc) (hs : sl + ms' ≤ ms)
    (k : ∀ ws', B' ws' → zA_Sim l E M d mc ms ws0 B rv (cs + mc') (sl + ms') (pc + 3) lv rest (wr ++ ws')) : zA_Sim l E M d mc ms ws0 B rv cs sl pc lv st (wr ++ [(b, ee)]) := by
  intro p e s m args below meth c C H locs ls hP hD hS hl
  obtain ⟨L1, L2, L3, L4, L5⟩ := L
  have hw := C.2.2.2.2.2.1
  subst hst
  have hM := hcon H.size
  have hws : zz_ws M' = Cond.code M'.1 M'.2.1 M'.2.2.1 none :: zz_tbl := by unfold zz_ws; rw [L5]
  have hb1 : (wr ++ [(b, ee)])[wr.length]? = some (b, ee) := by simp
  have hbA : va_A ws0 s.heap.size b := hD.2 _ _ hb1
  have hF : ∀ q, va_A [(b, ee)] H.size q → va_A ws0 s.heap.size q := by
    intro q hq
    rcases hq with ⟨k2, e2, h2⟩ | h2
    · have h3 : (b, ee) = (q, e2) := by
        cases k2 with
        | zero => exact Option.some.inj h2
        | succ k3 => simp at h2
      cases h3
      exact hbA
    · exact Or.inr (Nat.le_trans hS.1 h2)
  have hE := C.2.2.2.2.2.2.2.2.1
  have hD0 := C.2.2.2.2.2.2.2.2.2
  have hPb : va_P (zz_D E) zz_cl [(b, ee)] H := by
    intro k2 q2 h2
    cases k2 with
    | zero =>
      obtain rfl := Option.some.inj h2
      exact hP _ _ hb1
    | succ k3 => simp at h2
  have hDb : va_D (zz_A E) [(b, ee)] := by
    refine ⟨fun i j p1 q1 h1 h2 _ => ?_, fun k2 q2 h2 => ?_⟩
    · have h3 := (List.getElem?_eq_some_iff.mp h1).1
      have h4 := (List.getElem?_eq_some_iff.mp h2).1
      simp at h3 h4
      omega
    · cases k2 with
      | zero =>
        obtain rfl := Option.some.inj h2
        exact zA_le hE hD0 _ hbA
      | succ k3 => simp at h2
  intro T hT X
  have hlo : 8 + (M'.2.2.1 + 11) + 40 * d' ≤ 40 * d := by
    have := L2.2.2.2
    omega
  have hr := va_runIN (R := zA_rm d mc ms) (p := p) (e := e) (below := below) (meth := meth) (H := H) (locs := locs) (cells := cs) (slots := sl) (Ts := zz_ws M) (As := As) (rest := rest) (g := F0 m pc ls (As.reverse ++ .ref b :: rest)) ⟨C.1, C.2.1, C.2.2.2.1, C.2.2.2.2.1, hw⟩ hM ⟨va_cnB (bytes := M'.2.1) (maxL := M'.2.2.1) (ret := none) n hw (zz_good L2.1) hws rfl rfl (C.2.2.2.2.2.2.2.2.1.2.2.2.1 _ L1) (hw _ (List.mem_cons_of_mem _ L2.2.1)) L2.2.2.1 ⟨hdd, hlo⟩, L3, hw _ (List.mem_cons_of_mem _ L4)⟩ ⟨zA_blind _, fun U hU hWm => ⟨rfl, by rw [hU], zA_warm hWm hE hD0 (locs := locs) (by rw [hU]; exact hS), by rw [hU]; exact hPb, hDb⟩⟩ rfl hn hl.1 rfl (lv_room hW) hd ⟨hc, hs⟩ T hT X
  obtain ⟨v1, st₀, t, T', L, h0, X', hL, e1, e2, ⟨hv, ⟨ws', hB', hP1, hD1⟩, hz, hk⟩, st⟩ := hr
  cases hv
  rw [h0] at hz hk
  obtain ⟨hPj, hDj⟩ := zA_join hP hD hF (fun q h1 h2 => hk q h1 h2) hP1 hD1
  obtain ⟨t2, a1, b1⟩ := k ws' hB' p e s m args below meth c C T'.heap (locs ++ L) ls (by rw [e1]; exact hPj) hDj
    ⟨Nat.le_trans hS.1 (by rw [e1]; exact hz), fun q h1 h2 => by rw [e1, hk q (Nat.lt_of_lt_of_le h1 hS.1) (fun z => h2 (hF q z))]; exact hS.2.1 q h1 h2, fun q hq => by
      rcases List.mem_append.mp hq with h | h
      · exact hS.2.2 q h
      · exact hF _ (hL q h)⟩ hl T' rfl X'
  exact ⟨t2, st t2 a1, b1⟩
end ZA
