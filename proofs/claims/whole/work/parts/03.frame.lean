/-! ===== the frame: a method's walk held against a function of a flat memory =====
A cell of the system has a number k; its address is zz_a G k. zz_sh k: its shape, which never changes once all is made
(tag 0 ints, 1 longs, 2 bytes, 3 booleans: (tag, length, _); 4 an object: (4, class, fields); 5 a row of references that never
changes: (5, length, [(array class, _), (first, stride)]); 6 a row of references: (6, length, [(array class, _)])).
A field: (0, _) an int, (1, _) a long, (2, k) a reference to cell k for good, (3, _) a reference that changes.
The memory: ints by cell and place, longs by cell and place, references by cell and place. -/
abbrev zz_Sh : Type := Nat × Nat × List (Nat × Nat)
abbrev zz_Mem : Type := (Nat → Nat → Int32) × (Nat → Nat → Int64) × (Nat → Nat → Option Nat)
abbrev zz_G : Type := va_G × (Nat → ClassId) × (Nat → Nat) × (Nat → Nat) × (Nat → Nat) × (Nat → Prop) × Nat
abbrev zz_M : Type := MethodName × ByteArray × Nat × Option FieldType
def zz_D (G : zz_G) : va_G := G.1
def zz_c (G : zz_G) : Nat → ClassId := G.2.1
def zz_a (G : zz_G) : Nat → Nat := G.2.2.1
def zz_sk (G : zz_G) : Nat → Nat := G.2.2.2.1
def zz_sv (G : zz_G) : Nat → Nat := G.2.2.2.2.1
def zz_N (G : zz_G) : Nat := G.2.2.2.2.2.2
def zz_A (G : zz_G) : Nat → Prop := G.2.2.2.2.2.1
def zz_tys (G : zz_G) : List (ClassId × FieldType) := [(zz_c G 0, .int), (zz_c G 1, .long), (zz_c G 2, .byte), (zz_c G 3, .boolean), (zz_c G 4, .object "PillarDesk$Stand"), (zz_c G 5, .object "PillarDesk$Tray"), (zz_c G 6, .object "PillarDesk$Plan")]
def zz_fld (G : zz_G) (μ : zz_Mem) (k i : Nat) (f : Nat × Nat) : Value := match f.1 with
  | 0 => .int (μ.1 k i)
  | 1 => .long (μ.2.1 k i)
  | 2 => .ref (zz_a G f.2)
  | _ => va_rf ((μ.2.2 k i).map (zz_a G))
def zz_encS (G : zz_G) (μ : zz_Mem) (k : Nat) (s : zz_Sh) : va_E := match s.1 with
  | 0 => .inl (zz_c G 0, s.2.1, .inl (μ.1 k))
  | 1 => .inl (zz_c G 1, s.2.1, .inr (.inl (μ.2.1 k)))
  | 2 => .inl (zz_c G 2, s.2.1, .inl (μ.1 k))
  | 3 => .inl (zz_c G 3, s.2.1, .inl (μ.1 k))
  | 4 => .inr (s.2.1, s.2.2.mapIdx (zz_fld G μ k))
  | 5 => .inl (zz_c G (s.2.2.getD 0 (0, 0)).1, s.2.1, .inr (.inr (.inr (.inr (fun i => some (zz_a G ((s.2.2.getD 1 (0, 0)).1 + (s.2.2.getD 1 (0, 0)).2 * i)))))))
  | _ => .inl (zz_c G (s.2.2.getD 0 (0, 0)).1, s.2.1, .inr (.inr (.inr (.inr (fun i => (μ.2.2 k i).map (zz_a G))))))
def zz_wd (sh : Nat → zz_Sh) (G : zz_G) (μ : zz_Mem) : va_W := (List.range (zz_N G)).map (fun k => (zz_a G k, zz_encS G μ k (sh k)))
def zz_aD (G : zz_G) : Prop := (∀ i j, i < zz_N G → j < zz_N G → zz_a G i = zz_a G j → i = j) ∧ ∀ k, k < zz_N G → zz_A G (zz_a G k)
theorem zz_wd_at {sh : Nat → zz_Sh} {G : zz_G} {μ : zz_Mem} {k : Nat} (hk : k < zz_N G) : (zz_wd sh G μ)[k]? = some (zz_a G k, zz_encS G μ k (sh k)) := by
  unfold zz_wd
  rw [List.getElem?_map, List.getElem?_range hk]
  rfl
theorem zz_wd_inv {sh : Nat → zz_Sh} {G : zz_G} {μ : zz_Mem} {k : Nat} {q : Nat × va_E} (h : (zz_wd sh G μ)[k]? = some q) : k < zz_N G ∧ q = (zz_a G k, zz_encS G μ k (sh k)) := by
  have hk : k < zz_N G := by
    have h1 := (List.getElem?_eq_some_iff.mp h).1
    simpa [zz_wd] using h1
  rw [zz_wd_at hk] at h
  exact ⟨hk, (Option.some.inj h).symm⟩
theorem zz_wd_D {sh : Nat → zz_Sh} {G : zz_G} (h : zz_aD G) (μ : zz_Mem) : va_D (zz_A G) (zz_wd sh G μ) := by
  refine ⟨fun i j p q hp hq he => ?_, fun k q hq => ?_⟩
  · obtain ⟨h1, rfl⟩ := zz_wd_inv hp
    obtain ⟨h2, rfl⟩ := zz_wd_inv hq
    exact h.1 i j h1 h2 he
  · obtain ⟨h1, rfl⟩ := zz_wd_inv hq
    exact h.2 k h1
theorem zz_wd_set {sh : Nat → zz_Sh} {G : zz_G} {μ μ' : zz_Mem} {k : Nat} {e : va_E} (hk : k < zz_N G) (he : zz_encS G μ' k (sh k) = e) (h : ∀ j, j ≠ k → zz_encS G μ' j (sh j) = zz_encS G μ j (sh j)) : (zz_wd sh G μ).set k (zz_a G k, e) = zz_wd sh G μ' := by
  subst he
  apply List.ext_getElem?
  intro j
  rw [List.getElem?_set]
  by_cases hj : k = j
  · subst hj
    rw [if_pos rfl, zz_wd_at hk, if_pos (by simpa [zz_wd] using hk)]
  · rw [if_neg hj]
    by_cases hl : j < zz_N G
    · rw [zz_wd_at hl, zz_wd_at hl, h j (fun q => hj q.symm)]
    · rw [List.getElem?_eq_none (by simpa [zz_wd] using hl), List.getElem?_eq_none (by simpa [zz_wd] using hl)]
/-- the three stores -/
def zz_setI (μ : zz_Mem) (k i : Nat) (v : Int32) : zz_Mem := (va_up μ.1 k (upd (μ.1 k) i v), μ.2.1, μ.2.2)
def zz_setJ (μ : zz_Mem) (k i : Nat) (v : Int64) : zz_Mem := (μ.1, va_up μ.2.1 k (vp_updL (μ.2.1 k) i v), μ.2.2)
def zz_setR (μ : zz_Mem) (k i : Nat) (v : Option Nat) : zz_Mem := (μ.1, μ.2.1, va_up μ.2.2 k (va_up (μ.2.2 k) i v))
def zz_rowI (μ : zz_Mem) (k : Nat) (f : Nat → Int32) : zz_Mem := (va_up μ.1 k f, μ.2.1, μ.2.2)
def zz_rowJ (μ : zz_Mem) (k : Nat) (f : Nat → Int64) : zz_Mem := (μ.1, va_up μ.2.1 k f, μ.2.2)
theorem va_up_s {α : Type} (f : Nat → α) (k : Nat) (v : α) : va_up f k v k = v := by simp [va_up]
theorem va_up_n {α : Type} (f : Nat → α) {k j : Nat} (v : α) (h : j ≠ k) : va_up f k v j = f j := by simp [va_up, h]
theorem zz_enc_off {G : zz_G} {μ μ' : zz_Mem} {j : Nat} (s : zz_Sh) (h1 : μ'.1 j = μ.1 j) (h2 : μ'.2.1 j = μ.2.1 j) (h3 : μ'.2.2 j = μ.2.2 j) : zz_encS G μ' j s = zz_encS G μ j s := by
  have hf : zz_fld G μ' j = zz_fld G μ j := by
    funext i f
    simp only [zz_fld, h1, h2, h3]
  simp only [zz_encS, h1, h2, h3, hf]
/-- what is let be -/
def zz_letI {τ : Type} (e : Int32) (K : Int32 → Option τ) : Option τ := K e
def zz_letJ {τ : Type} (e : Int64) (K : Int64 → Option τ) : Option τ := K e
def zz_letM {τ : Type} (e : zz_Mem) (K : zz_Mem → Option τ) : Option τ := K e
def zz_ix {τ : Type} (i : Int32) (n : Nat) (f : Option τ) : Option τ := if i < 0 ∨ n ≤ i.toNatClampNeg then none else f
def zz_nz {τ : Type} (y : Int32) (f : Option τ) : Option τ := if y = 0 then none else f
def zz_nzJ {τ : Type} (y : Int64) (f : Option τ) : Option τ := if y = 0 then none else f
def zz_bndR {τ ρ : Type} (o : Option ρ) (K : ρ → Option τ) : Option τ := match o with
  | none => none
  | some q => K q
def zz_bnd {τ ρ : Type} (o : Option (ρ × zz_Mem)) (K : ρ → zz_Mem → Option τ) : Option τ := zz_bndR o (fun q => K q.1 q.2)
/-- strings: which constants there are, their bytes -/
def zz_strs : List String := [";:+-*()[]=<>", "desk", "first", "curve", "shift", "holiday", "deposit", "every", "rate", "forward", "swap", "flow", "minus", "plus", "rates", "if", "not", "and", "or", "then", "else", "end", "told", "days", "kind", "input", "week", "date", "opens", " desk first curve shift holiday deposit rate forward swap every flow plus minus rates opens if then else end told days kind input week date and or not "]
def zz_ldcs : List (String × Nat × String × Nat) := [("PillarDesk$Reader", 78, ";:+-*()[]=<>", 0), ("PillarDesk$Reader", 103, "desk", 1), ("PillarDesk$Reader", 109, "first", 2), ("PillarDesk$Reader", 116, "curve", 3), ("PillarDesk$Reader", 120, "shift", 4), ("PillarDesk$Reader", 138, "holiday", 5), ("PillarDesk$Reader", 143, "deposit", 6), ("PillarDesk$Reader", 189, "every", 7), ("PillarDesk$Reader", 191, "rate", 8), ("PillarDesk$Reader", 148, "forward", 9), ("PillarDesk$Reader", 150, "swap", 10), ("PillarDesk$Reader", 152, "flow", 11), ("PillarDesk$Reader", 201, "minus", 12), ("PillarDesk$Reader", 203, "plus", 13), ("PillarDesk$Reader", 157, "rates", 14), ("PillarDesk$Reader", 249, "if", 15), ("PillarDesk$Reader", 291, "not", 16), ("PillarDesk$Reader", 289, "and", 17), ("PillarDesk$Reader", 284, "or", 18), ("PillarDesk$Reader", 257, "then", 19), ("PillarDesk$Reader", 259, "else", 20), ("PillarDesk$Reader", 261, "end", 21), ("PillarDesk$Reader", 269, "told", 22), ("PillarDesk$Reader", 271, "days", 23), ("PillarDesk$Reader", 273, "kind", 24), ("PillarDesk$Reader", 275, "input", 25), ("PillarDesk$Reader", 277, "week", 26), ("PillarDesk$Reader", 279, "date", 27), ("PillarDesk$Reader", 162, "opens", 28), ("PillarDeskModel", 107, " desk first curve shift holiday deposit rate forward swap every flow plus minus rates opens if then else end told days kind input week date and or not ", 29), ("PillarDeskModel", 145, ";:+-*()[]=<>", 0)]
def zz_sl (i : Nat) : Nat := (zz_strs.getD i "").toList.length
def zz_sb (i j : Nat) : Int32 := Int32.ofNat ((zz_strs.getD i "").toList.getD j ' ').toNat
def zz_Cst (G : zz_G) (U : State) (H : Heap) : Prop :=
  (∀ i : Nat, i < 30 → va_O "java/lang/String" (zz_sk G i) (zz_A G) U H ∧ va_OF "java/lang/String" "coder" "B" (.int 0) (zz_sk G i) (zz_A G) U H ∧ va_OF "java/lang/String" "value" "[B" (.ref (zz_sv G i)) (zz_sk G i) (zz_A G) U H ∧ va_T .byte (zz_sv G i) (zz_sl i) (fun j => .int (zz_sb i j)) (zz_A G) U H) ∧
  va_Z "java/lang/String" "COMPACT_STRINGS" "Z" (.int 1) (zz_A G) U H ∧ va_Zq "jdk/internal/util/Preconditions" "SIOOBE_FORMATTER" "Ljava/util/function/BiFunction;" (zz_A G) U H
def zz_Lnk (G : zz_G) (U : State) : Prop := ∀ q ∈ zz_ldcs, vk_R q.1 q.2.1 q.2.2.1 (zz_sk G q.2.2.2) U
theorem zz_Cst.moved {G : zz_G} {u U : State} {H : Heap} (hvm : u.vm.Alike U.vm) (h : zz_Cst G u H) : zz_Cst G U H :=
  ⟨fun i hi => ⟨va_O.moved hvm (h.1 i hi).1, va_OF.moved hvm (h.1 i hi).2.1, va_OF.moved hvm (h.1 i hi).2.2.1, va_T.moved hvm (h.1 i hi).2.2.2⟩, va_Z.moved hvm h.2.1, va_Zq.moved hvm h.2.2⟩
theorem zz_Cst.kept {G : zz_G} {U : State} {H H1 : Heap} (h : zz_Cst G U H) (hq : ∀ a : Nat, a < H.size → ¬ zz_A G a → H1[a]? = H[a]?) : zz_Cst G U H1 :=
  ⟨fun i hi => ⟨(h.1 i hi).1.kept hq, (h.1 i hi).2.1.kept hq, (h.1 i hi).2.2.1.kept hq, (h.1 i hi).2.2.2.kept hq⟩, h.2.1.kept hq, h.2.2.kept hq⟩
/-- links among nest mates -/
def zz_nests : List (String × Nat × MethodName) := [(RX11, 19, yX6_init), (RX6, 32, yX3_init), (RX6, 39, yX9_init), (RX5, 17, yX9_init), (RX11, 55, yX9_init), (RX11, 108, yX10_init), (RX1, 54, yX11_inRateBounds), (RX4, 63, yX11_inRateBounds)]
def zz_Nst (U : State) : Prop := ∀ q ∈ zz_nests, va_Nw (.methodLinkNest q.1 q.2.1 q.2.2 RX11) U
/-- what stays as it is while the system runs -/
def zz_Env (G : zz_G) (U : State) : Prop := va_K (zz_D G) zz_cl (zz_tys G) U ∧ zz_aD G ∧ zz_Cst G U U.heap ∧ zz_Lnk G U ∧ zz_Nst U
def zz_ws (M : zz_M) : List Cond := Cond.code M.1 M.2.1 M.2.2.1 M.2.2.2 :: zz_tbl
theorem zz_good {M M' : zz_M} (h : Cond.code M'.1 M'.2.1 M'.2.2.1 M'.2.2.2 ∈ zz_tbl) : GoodIn (zz_ws M) (zz_ws M') := by
  intro w hw
  have h1 : w ∈ zz_tbl := by
    rcases List.mem_cons.mp hw with rfl | h2
    · exact h
    · exact h2
  exact ⟨List.mem_cons_of_mem _ h1, good_of_word (List.mem_filter.mp h1).2⟩
theorem zz_Lnk.warm {G : zz_G} {s U : State} (hW : s.WarmedH U.vm) (h : zz_Lnk G s) : zz_Lnk G U := fun q hq => vk_R.warm hW (h q hq)
theorem zz_Nst.warm {s U : State} (hW : s.WarmedH U.vm) (h : zz_Nst s) : zz_Nst U := fun q hq => va_Nw.warmM hW (h q hq)
theorem zz_Env.warm {G : zz_G} {s U : State} {locs : List Loc} (hW : s.WarmedH U.vm) (hS : va_S (zz_A G) s.heap U.heap locs) (h : zz_Env G s) : zz_Env G U :=
  ⟨va_K.moved hW.alike h.1, h.2.1, (h.2.2.1.moved hW.alike).kept hS.2.1, h.2.2.2.1.warm hW, h.2.2.2.2.warm hW⟩
theorem zz_Env.blind {G : zz_G} {U : State} {g : JFrame} {mk : MethodId} {a : Array Value} (h : zz_Env G U) : zz_Env G (U.calling g mk a) :=
  ⟨va_K.moved (u := U) (U := U.calling g mk a) (Vm.Alike.refl U.vm) h.1, h.2.1, h.2.2.1.moved (u := U) (U := U.calling g mk a) (Vm.Alike.refl U.vm), fun q hq => vk_R.same (u := U) (U := U.calling g mk a) rfl (h.2.2.2.1 q hq), fun q hq => va_Nw.same (u := U) (U := U.calling g mk a) rfl rfl (h.2.2.2.2 q hq)⟩
def zz_rm (d : Nat) : Room := { frames := d, cells := 0, slots := 0, locals := 40 * d }
def zz_Ctx (p : Program) (G : zz_G) (M : zz_M) (s : State) (m : MethodId) (args : Array Value) (meth : Method) (c : Code) : Prop :=
  p.tables.exec = Jvm.exec ∧ c.code = M.2.1 ∧ meth.sig.returnType = M.2.2.2 ∧ c.maxLocals = M.2.2.1 ∧ s.vm.findClass M.1.cls = some m.cls ∧ (∀ w ∈ zz_ws M, w.before args s = true) ∧ meth.locks = false ∧ zz_Env G s
def zz_Post (sh : Nat → zz_Sh) (G : zz_G) (v : Option Value) (μ' : zz_Mem) : Array Value → State → Outcome → State → Prop := fun _ st o t => o = .returned v ∧ va_P (zz_D G) zz_cl (zz_wd sh G μ') t.heap ∧ va_F (zz_A G) st t
def zz_Pre (sh : Nat → zz_Sh) (G : zz_G) (μ : zz_Mem) : State → Prop := fun U => zz_Env G U ∧ va_P (zz_D G) zz_cl (zz_wd sh G μ) U.heap
/-- a method's contract: where its model f has an answer, it returns with that -/
def zz_Con (sh : Nat → zz_Sh) (l : Launch) (G : zz_G) (M : zz_M) (d : Nat) (avs : List Value) {τ : Type} (val : τ → Option Value) (mem : τ → zz_Mem) (f : Option τ) (μ : zz_Mem) : Prop :=
  ∀ q, f = some q → Met l M.1 (zz_ws M) (zz_rm d) (va_Pc avs (zz_Pre sh G μ)) (zz_Post sh G (val q) (mem q)) 0 0 (zz_A G)
/-- the walk: at pc, with these locals, this stack, this memory, the method comes to what f says -/
def zz_Sim (sh : Nat → zz_Sh) (l : Launch) (G : zz_G) (M : zz_M) (d : Nat) {τ : Type} (val : τ → Option Value) (mem : τ → zz_Mem) (f : Option τ) (pc : Nat) (lv : List (Nat × Value)) (st : List Value) (μ : zz_Mem) : Prop :=
  ∀ q, f = some q → ∀ (p : Program) (e : Env) (s : State) (m : MethodId) (args : Array Value) (below : List Frame) (meth : Method) (c : Code), zz_Ctx p G M s m args meth c → ∀ (H : Heap) (locs : List Loc) (ls : Array Slot), va_P (zz_D G) zz_cl (zz_wd sh G μ) H → va_S (zz_A G) s.heap H locs → lv_has ls M.2.2.1 lv →
    W p l e (zz_rm d) s m args below meth c H locs 0 0 (MQ below (zz_Post sh G (val q) (mem q)) args s 0 0 (zz_A G)) (F0 m pc ls st)
theorem zz_ofW {l : Launch} {y : MethodName} {ws ws' : List Cond} {rm : Room} {Pc : Array Value → State → Prop} {Qc : Array Value → State → Outcome → State → Prop} {mc ms : Nat} {free : Addr → Prop} {cc : ByteArray} {maxL : Nat} {ret : Option FieldType}
    (hy : plainFor y = true) (hw : ws = Cond.code y cc maxL ret :: ws')
    (body : ∀ p e s m args below meth c s₁, BodyLoose p l y (headSpec ws rm) cc maxL ret e s m args below meth c s₁ → c.maxLocals = maxL → Pc args s →
      W p l e (headSpec ws rm).room s m args below meth c s.heap [] 0 0 (MQ below Qc args s mc ms free) (entryFrame m args maxL)) : Met l y ws rm Pc Qc mc ms free := by
  refine MetFree.of_bodySF (code := cc) (maxLocals := maxL) (ret := ret) hy ?_ ?_
  · intro args s m h hn
    obtain ⟨meth, c, h1, h2, h3, h4, h5, h6, -, -⟩ := Cond.code_spec hn (atoms_spec (ws := ws) h _ (by rw [hw]; exact List.mem_cons_self))
    exact ⟨meth, c, h1, h2, h3, h4, h5, h6⟩
  · intro p e s m args below meth c s₁ B hml hP _
    have hh0 : s₁.heap = s.heap := by rw [B.state]; rfl
    obtain ⟨t, a1, o, b1, b2, b3⟩ := body p e s m args below meth c s₁ B hml hP s₁ hh0 (Stand.of_body B)
    exact ⟨t, o, a1, b1, b2, ⟨b3.1, b3.2⟩⟩
section ZF
variable {sh : Nat → zz_Sh} {l : Launch} {G : zz_G} {M : zz_M} {d : Nat} {τ : Type} {val : τ → Option Value} {mem : τ → zz_Mem} {f : Option τ} {pc : Nat} {lv : List (Nat × Value)} {st : List Value} {μ : zz_Mem}
theorem zz_con {avs : List Value} {lv : List (Nat × Value)} (hy : plainFor M.1 = true) (hlen : (lg_sl avs).length ≤ M.2.2.1) (hlv : lv_args 0 avs = lv) (k : zz_Sim sh l G M d val mem f 0 lv [] μ) : zz_Con sh l G M d avs val mem f μ := by
  intro q hf
  subst hlv
  refine zz_ofW (cc := M.2.1) (maxL := M.2.2.1) (ret := M.2.2.2) hy rfl ?_
  intro p e s m args below meth c s₁ B hml hv
  obtain ⟨rfl, hE, hP⟩ := hv
  have hl := lv_entry avs (n := M.2.2.1) hlen
  rw [lg_entry_eq]
  exact k q hf p e s m _ below meth c ⟨B.exec, B.bytes, B.returns, hml, findClass_of_methodNamed B.named, atoms_spec (ws := zz_ws M) B.pre, B.notSynchronized, hE⟩ s.heap [] _ hP va_S.rf hl
theorem zs_none : zz_Sim sh l G M d val mem (none : Option τ) pc lv st μ := fun q h => by cases h
theorem zs_sub {lv' : List (Nat × Value)} (ks : List Nat) (h : lv_pick lv ks = lv') (k : zz_Sim sh l G M d val mem f pc lv' st μ) : zz_Sim sh l G M d val mem f pc lv st μ := by
  intro q hf p e s m args below meth c C H locs ls hP hS hl
  exact k q hf p e s m args below meth c C H locs ls hP hS (lv_sub hl ks h)
theorem zs_letI {e : Int32} {K : Int32 → Option τ} (k : ∀ y, zz_Sim sh l G M d val mem (K y) pc lv (.int y :: st) μ) : zz_Sim sh l G M d val mem (zz_letI e K) pc lv (.int e :: st) μ := k e
theorem zs_letJ {e : Int64} {K : Int64 → Option τ} (k : ∀ y, zz_Sim sh l G M d val mem (K y) pc lv (.long y :: st) μ) : zz_Sim sh l G M d val mem (zz_letJ e K) pc lv (.long e :: st) μ := k e
theorem zs_letM {K : zz_Mem → Option τ} (k : ∀ m, zz_Sim sh l G M d val mem (K m) pc lv st m) : zz_Sim sh l G M d val mem (zz_letM μ K) pc lv st μ := k μ
end ZF
