/-! ===== the law: rows ===== -/
def R_law : String := "PillarDeskLaw"
def lw_P (b : Addr) (xs : List Int32) (args : Array Value) (s : State) : Prop := args = #[.ref b] ∧ s.IntsAt b xs ∧ xs.length ≤ 3072 ∧ (Jvm.Cond.and given_1 narrow_1).before args s = true
def lw_Q (_ : Array Value) (s : State) (o : Outcome) (t : State) : Prop := o = .returned (some (.int 1)) ∧ Framed s o t [] 600000 7302250
def lw_Z (below : List Frame) (a : Array Value) (s : State) : State → Prop := fun t => ∃ o, t.status = .running ∧ Ended t below o ∧ lw_Q a s o t
/-- the law's own end, with 1 on the stack, nothing written that was there before, its room as the claim has it -/
theorem lw_ret {p : Program} {l : Launch} {e : Env} {s : State} {m : MethodId} {below : List Frame} {meth : Method} {c : Code} {b : Nat} (hx : p.tables.exec = Jvm.exec) (hb : c.code = code) (hr : meth.sig.returnType = ret) (hlocks : meth.locks = false) {pc : Nat} {H : Heap} {ls : Array Slot} (hdg : decode code pc = .ok (.ireturn, 1)) : W p l e room_1 s m #[Value.ref b] below meth c H [] 600000 7302250 (lw_Z below #[Value.ref b] s) (F0 m pc ls [.int 1]) := by
  intro T hT X
  obtain ⟨fs, hret, hrun, hended, hW, hframe⟩ := X.leave (v := some (.int 1)) (hlocks := hlocks) (fun h => by rw [hr] at h; cases h)
  have hmeth' : T.vm.method? m = some meth := X.method'
  refine ⟨T.setFrames fs, ?_, .returned (some (.int 1)), hrun, hended, rfl, ⟨_, rfl⟩, hW, hframe⟩
  jvm_step X.here [X.here.top, hx, hb, hdg, hmeth', hr, ret, narrow_b1]
  (try refine ⟨rfl, ?_⟩); (try refine ⟨rfl, ?_⟩)
  first | (intro acts; rw [hret _ acts rfl rfl rfl]) | rw [hret _ _ rfl rfl rfl]
  exact Steps.refl _
/-- what holds at the law's entry: the machine, the code, the tables' words (any of lw_tbl by 'hts w (by decide +kernel)'), the script of L ints xs at the cell b, what the Statement gives of the start (any of its parts by flat_of_before) -/
def lw_At (p : Program) (s : State) (m : MethodId) (meth : Method) (c : Code) (b L : Nat) (xs : Nat → Int32) : Prop :=
  p.tables.exec = Jvm.exec ∧ c.code = code ∧ meth.sig.returnType = ret ∧ c.maxLocals = 4 ∧ s.vm.findClass R_law = some m.cls ∧ (∀ w ∈ lw_tbl, w.before #[Value.ref b] s = true) ∧ va_X b L xs s s.heap ∧ b < s.heap.size ∧ meth.locks = false ∧ (Jvm.Cond.and given_1 narrow_1).before #[Value.ref b] s = true
def zL_Fix (p : Program) (E : zz_G) (s : State) (m : MethodId) (args : Array Value) (meth : Method) (c : Code) (b L : Nat) (xs : Nat → Int32) (A1 A2 : Nat → Prop) (a2 : Nat → Nat) : Prop :=
  p.tables.exec = Jvm.exec ∧ c.code = code ∧ meth.sig.returnType = ret ∧ c.maxLocals = 4 ∧ s.vm.findClass R_law = some m.cls ∧ (∀ w ∈ lw_tbl, w.before args s = true) ∧ meth.locks = false ∧ va_X b L xs s s.heap ∧ b < s.heap.size ∧ zA_Env E s ∧ (∀ q, A1 q → zz_A E q) ∧ (∀ q, A2 q → zz_A E q) ∧ zz_aD (zA_G E a2 26 A2) ∧ (∀ k, k < 26 → ¬ A1 (a2 k)) ∧ (∀ q, zz_A E q ↔ s.heap.size ≤ q)
def zL_W (E : zz_G) (A1 A2 : Nat → Prop) (a2 : Nat → Nat) (h1 n : Nat) (μ ν : zz_Mem) (H : Heap) : Prop := ∃ a : Nat → Nat, a 0 = h1 ∧ va_P (zz_D E) zz_cl (zz_wd zz_sh (zA_G E a n A1) μ) H ∧ zz_aD (zA_G E a n A1) ∧ va_P (zz_D E) zz_cl (zz_wd zz_shM (zA_G E a2 26 A2) ν) H ∧ (∀ k, k < n → ¬ A2 (a k)) ∧ ∀ q, H.size ≤ q → A1 q ∧ ¬ A2 q
def zL (l : Launch) (E : zz_G) (b L : Nat) (xs : Nat → Int32) (A1 A2 : Nat → Prop) (a2 : Nat → Nat) (h1 cs sl pc : Nat) (lv : List (Nat × Value)) (st : List Value) (n : Nat) (μ ν : zz_Mem) : Prop :=
  ∀ (p : Program) (e : Env) (s : State) (m : MethodId) (below : List Frame) (meth : Method) (c : Code), zL_Fix p E s m #[Value.ref b] meth c b L xs A1 A2 a2 → ∀ (H : Heap) (locs : List Loc) (ls : Array Slot), zL_W E A1 A2 a2 h1 n μ ν H → va_S (zz_A E) s.heap H locs → lv_has ls 4 lv →
    W p l e room_1 s m #[Value.ref b] below meth c H locs cs sl (lw_Z below #[Value.ref b] s) (F0 m pc ls st)
theorem zL_goodIn {M' : zz_M} (h : Cond.code M'.1 M'.2.1 M'.2.2.1 M'.2.2.2 ∈ zz_tbl) : GoodIn lw_tbl (zz_ws M') := by
  intro w hw
  have h1 : w ∈ zz_tbl := by
    rcases List.mem_cons.mp hw with rfl | h2
    · exact h
    · exact h2
  exact ⟨(List.mem_filter.mp h1).1, good_of_word (List.mem_filter.mp h1).2⟩
theorem zL_in {w : Cond} (h : w ∈ zz_tbl) : w ∈ lw_tbl := (List.mem_filter.mp h).1
theorem zL_warm {G E : zz_G} {s U : State} {locs : List Loc} (h : zz_Env G s) (hW : s.WarmedH U.vm) (hA : ∀ q, zz_A G q → zz_A E q) (hC : zz_Cst E s s.heap) (hk : zz_sk G = zz_sk E) (hv : zz_sv G = zz_sv E) (hS : va_S (zz_A E) s.heap U.heap locs) : zz_Env G U :=
  ⟨va_K.moved hW.alike h.1, h.2.1, zA_narrow ((hC.moved hW.alike).kept hS.2.1) hk hv hA, h.2.2.2.1.warm hW, h.2.2.2.2.warm hW⟩
section ZLL
variable {l : Launch} {E : zz_G} {b L : Nat} {xs : Nat → Int32} {A1 A2 : Nat → Prop} {a2 : Nat → Nat} {h1 cs sl pc n idx : Nat} {lv : List (Nat × Value)} {st rest As : List Value} {μ ν : zz_Mem} {M' : zz_M} {d' nn : Nat}
theorem zL_aload_n {j : Fin 4} {i x : Nat} (hd : decode code pc = .ok (.aload_n j, 1)) (hi : (j : Nat) = i) (pl : Nat) (hl0 : lv[pl]? = some (i, .ref x)) (k : zL l E b L xs A1 A2 a2 h1 cs sl (pc + 1) lv (.ref x :: st) n μ ν) : zL l E b L xs A1 A2 a2 h1 cs sl pc lv st n μ ν :=
  fun p e s m below meth c F H locs ls hW hS hl => lv_aload_n F.1 F.2.1 hd hi (lv_at hl pl hl0) (k p e s m below meth c F H locs ls hW hS hl)
theorem zL_iload_n {j : Fin 4} {i : Nat} {x : Int32} (hd : decode code pc = .ok (.iload_n j, 1)) (hi : (j : Nat) = i) (pl : Nat) (hl0 : lv[pl]? = some (i, .int x)) (k : zL l E b L xs A1 A2 a2 h1 cs sl (pc + 1) lv (.int x :: st) n μ ν) : zL l E b L xs A1 A2 a2 h1 cs sl pc lv st n μ ν :=
  fun p e s m below meth c F H locs ls hW hS hl => lv_iload_n F.1 F.2.1 hd hi (lv_at hl pl hl0) (k p e s m below meth c F H locs ls hW hS hl)
theorem zL_iconst {v0 : Int} {v : Int32} (hd : decode code pc = .ok (.iconst v0, 1)) (hv : Int32.ofInt v0 = v) (k : zL l E b L xs A1 A2 a2 h1 cs sl (pc + 1) lv (.int v :: st) n μ ν) : zL l E b L xs A1 A2 a2 h1 cs sl pc lv st n μ ν :=
  fun p e s m below meth c F H locs ls hW hS hl => lv_iconst F.1 F.2.1 hd hv (k p e s m below meth c F H locs ls hW hS hl)
theorem zL_bipush {v0 : Int} {v : Int32} (hd : decode code pc = .ok (.bipush v0, 2)) (hv : (Int8.ofInt v0).toInt32 = v) (k : zL l E b L xs A1 A2 a2 h1 cs sl (pc + 2) lv (.int v :: st) n μ ν) : zL l E b L xs A1 A2 a2 h1 cs sl pc lv st n μ ν :=
  fun p e s m below meth c F H locs ls hW hS hl => lv_bipush F.1 F.2.1 hd hv (k p e s m below meth c F H locs ls hW hS hl)
theorem zL_iadd {x y : Int32} (hd : decode code pc = .ok (.iadd, 1)) (k : zL l E b L xs A1 A2 a2 h1 cs sl (pc + 1) lv (.int (x + y) :: st) n μ ν) : zL l E b L xs A1 A2 a2 h1 cs sl pc lv (.int y :: .int x :: st) n μ ν :=
  fun p e s m below meth c F H locs ls hW hS hl => lv_iadd F.1 F.2.1 hd (k p e s m below meth c F H locs ls hW hS hl)
theorem zL_isub {x y : Int32} (hd : decode code pc = .ok (.isub, 1)) (k : zL l E b L xs A1 A2 a2 h1 cs sl (pc + 1) lv (.int (x - y) :: st) n μ ν) : zL l E b L xs A1 A2 a2 h1 cs sl pc lv (.int y :: .int x :: st) n μ ν :=
  fun p e s m below meth c F H locs ls hW hS hl => lv_isub F.1 F.2.1 hd (k p e s m below meth c F H locs ls hW hS hl)
theorem zL_iand {x y : Int32} (hd : decode code pc = .ok (.iand, 1)) (k : zL l E b L xs A1 A2 a2 h1 cs sl (pc + 1) lv (.int (x &&& y) :: st) n μ ν) : zL l E b L xs A1 A2 a2 h1 cs sl pc lv (.int y :: .int x :: st) n μ ν :=
  fun p e s m below meth c F H locs ls hW hS hl => lv_iand F.1 F.2.1 hd (k p e s m below meth c F H locs ls hW hS hl)
theorem zL_land {x y : Int64} (hd : decode code pc = .ok (.land, 1)) (k : zL l E b L xs A1 A2 a2 h1 cs sl (pc + 1) lv (.long (x &&& y) :: st) n μ ν) : zL l E b L xs A1 A2 a2 h1 cs sl pc lv (.long y :: .long x :: st) n μ ν :=
  fun p e s m below meth c F H locs ls hW hS hl => lv_land F.1 F.2.1 hd (k p e s m below meth c F H locs ls hW hS hl)
theorem zL_lor {x y : Int64} (hd : decode code pc = .ok (.lor, 1)) (k : zL l E b L xs A1 A2 a2 h1 cs sl (pc + 1) lv (.long (x ||| y) :: st) n μ ν) : zL l E b L xs A1 A2 a2 h1 cs sl pc lv (.long y :: .long x :: st) n μ ν :=
  fun p e s m below meth c F H locs ls hW hS hl => lv_lor F.1 F.2.1 hd (k p e s m below meth c F H locs ls hW hS hl)
theorem zL_i2l {x : Int32} (hd : decode code pc = .ok (.i2l, 1)) (k : zL l E b L xs A1 A2 a2 h1 cs sl (pc + 1) lv (.long x.toInt64 :: st) n μ ν) : zL l E b L xs A1 A2 a2 h1 cs sl pc lv (.int x :: st) n μ ν :=
  fun p e s m below meth c F H locs ls hW hS hl => lv_i2l F.1 F.2.1 hd rfl (k p e s m below meth c F H locs ls hW hS hl)
theorem zL_lshl {x : Int64} {y : Int32} (hd : decode code pc = .ok (.lshl, 1)) (k : zL l E b L xs A1 A2 a2 h1 cs sl (pc + 1) lv (.long (x <<< (y.toInt64 &&& 63)) :: st) n μ ν) : zL l E b L xs A1 A2 a2 h1 cs sl pc lv (.int y :: .long x :: st) n μ ν :=
  fun p e s m below meth c F H locs ls hW hS hl => lv_lshl F.1 F.2.1 hd rfl (k p e s m below meth c F H locs ls hW hS hl)
theorem zL_ldc2 {v : Int64} (hd : decode code pc = .ok (.ldc2_w idx, 3)) (hc : Cond.constantLong R_law idx v ∈ lw_tbl) (k : zL l E b L xs A1 A2 a2 h1 cs sl (pc + 3) lv (.long v :: st) n μ ν) : zL l E b L xs A1 A2 a2 h1 cs sl pc lv st n μ ν :=
  fun p e s m below meth c F H locs ls hW hS hl => lv_ldc2 F.1 F.2.1 F.2.2.2.2.1 (F.2.2.2.2.2.1 _ hc) hd (k p e s m below meth c F H locs ls hW hS hl)
theorem zL_goto {off : Int} {tgt : Nat} (hd : decode code pc = .ok (.goto off, 3)) (ht : (pc : Int) + off = (tgt : Int)) (k : zL l E b L xs A1 A2 a2 h1 cs sl tgt lv st n μ ν) : zL l E b L xs A1 A2 a2 h1 cs sl pc lv st n μ ν := fun p e s m below meth c F H locs ls hW hS hl => lv_goto F.1 F.2.1 hd ht (k p e s m below meth c F H locs ls hW hS hl)
theorem zL_iinc {i : Nat} {v0 : Int} {x v : Int32} (lv' : List (Nat × Value)) (hd : decode code pc = .ok (.iinc i v0, 3)) (pl : Nat) (hl0 : lv[pl]? = some (i, .int x)) (hv : x + Int32.ofInt v0 = v) (hn : i < 4) (h0 : (i, Value.int v) :: lv.filter (fun q => !(q.1 == i) && !(q.1 + 1 == i && q.2.category == 2)) = lv') (k : zL l E b L xs A1 A2 a2 h1 cs sl (pc + 3) lv' st n μ ν) : zL l E b L xs A1 A2 a2 h1 cs sl pc lv st n μ ν :=
  fun p e s m below meth c F H locs ls hW hS hl => lv_iinc F.1 F.2.1 hd hl hl0 hv hn h0 (fun ls hl => k p e s m below meth c F H locs ls hW hS hl)
theorem zL_sub {lv' : List (Nat × Value)} (ks : List Nat) (h : lv_pick lv ks = lv') (k : zL l E b L xs A1 A2 a2 h1 cs sl pc lv' st n μ ν) : zL l E b L xs A1 A2 a2 h1 cs sl pc lv st n μ ν := fun p e s m below meth c F H locs ls hW hS hl => k p e s m below meth c F H locs ls hW hS (lv_sub hl ks h)
theorem zL_widen {cs2 sl2 : Nat} (h : cs ≤ cs2) (h2 : sl ≤ sl2) (k : zL l E b L xs A1 A2 a2 h1 cs2 sl2 pc lv st n μ ν) : zL l E b L xs A1 A2 a2 h1 cs sl pc lv st n μ ν := fun p e s m below meth c F H locs ls hW hS hl => W.widen h h2 (k p e s m below meth c F H locs ls hW hS hl)
theorem zL_eqT {x : Int32} {off : Int} {tgt : Nat} (hd : decode code pc = .ok (.if_icmp .eq off, 3)) (ht : (pc : Int) + off = (tgt : Int)) (k : zL l E b L xs A1 A2 a2 h1 cs sl tgt lv st n μ ν) : zL l E b L xs A1 A2 a2 h1 cs sl pc lv (.int x :: .int x :: st) n μ ν := fun p e s m below meth c F H locs ls hW hS hl => lv_icmp_eq F.1 F.2.1 hd ht (fun _ => k p e s m below meth c F H locs ls hW hS hl) (fun h => absurd rfl h)
theorem zL_leqT {x : Int64} {off : Int} {tgt : Nat} (hd0 : decode code pc = .ok (.lcmp, 1)) (hd : decode code (pc + 1) = .ok (.ifCond .eq off, 3)) (ht : ((pc + 1 : Nat) : Int) + off = (tgt : Int)) (k : zL l E b L xs A1 A2 a2 h1 cs sl tgt lv st n μ ν) : zL l E b L xs A1 A2 a2 h1 cs sl pc lv (.long x :: .long x :: st) n μ ν := fun p e s m below meth c F H locs ls hW hS hl => W.lcmp F.1 F.2.1 hd0 (lv_if_eq F.1 F.2.1 hd ht (fun _ => k p e s m below meth c F H locs ls hW hS hl) (fun h => absurd ((lgc_eq x x).mpr rfl) h))
theorem zL_gtT {x y : Int32} {off : Int} {tgt : Nat} (hd : decode code pc = .ok (.if_icmp .gt off, 3)) (ht : (pc : Int) + off = (tgt : Int)) (h : y < x) (k : zL l E b L xs A1 A2 a2 h1 cs sl tgt lv st n μ ν) : zL l E b L xs A1 A2 a2 h1 cs sl pc lv (.int y :: .int x :: st) n μ ν := fun p e s m below meth c F H locs ls hW hS hl => lv_icmp_gt F.1 F.2.1 hd ht (fun _ => k p e s m below meth c F H locs ls hW hS hl) (fun h2 => absurd h h2)
theorem zL_gtF {x y : Int32} {off : Int} {tgt : Nat} (hd : decode code pc = .ok (.if_icmp .gt off, 3)) (ht : (pc : Int) + off = (tgt : Int)) (h : ¬ y < x) (k : zL l E b L xs A1 A2 a2 h1 cs sl (pc + 3) lv st n μ ν) : zL l E b L xs A1 A2 a2 h1 cs sl pc lv (.int y :: .int x :: st) n μ ν := fun p e s m below meth c F H locs ls hW hS hl => lv_icmp_gt F.1 F.2.1 hd ht (fun h2 => absurd h2 h) (fun _ => k p e s m below meth c F H locs ls hW hS hl)
theorem zL_tswI {x v : Int32} (hx : x = v) {dflt lo hi : Int} {offs : Array Int} {len : Nat} {off : Int} {tgt : Nat} (hd : decode code pc = .ok (.tableswitch dflt lo hi offs, len)) (g1 : ¬ v.toInt < lo) (g2 : ¬ hi < v.toInt) (ho : offs[(v.toInt - lo).toNat]? = some off) (ht : (pc : Int) + off = (tgt : Int)) (k : zL l E b L xs A1 A2 a2 h1 cs sl tgt lv st n μ ν) : zL l E b L xs A1 A2 a2 h1 cs sl pc lv (.int x :: st) n μ ν := by
  subst hx
  exact fun p e s m below meth c F H locs ls hW hS hl => lv_tableIn F.1 F.2.1 hd g1 g2 ho ht (k p e s m below meth c F H locs ls hW hS hl)
theorem zL_tswO {x : Int32} {dflt lo hi : Int} {offs : Array Int} {len : Nat} {tgt : Nat} (hd : decode code pc = .ok (.tableswitch dflt lo hi offs, len)) (h : x.toInt < lo ∨ hi < x.toInt) (ht : (pc : Int) + dflt = (tgt : Int)) (k : zL l E b L xs A1 A2 a2 h1 cs sl tgt lv st n μ ν) : zL l E b L xs A1 A2 a2 h1 cs sl pc lv (.int x :: st) n μ ν := fun p e s m below meth c F H locs ls hW hS hl => lv_tableOut F.1 F.2.1 hd h ht (k p e s m below meth c F H locs ls hW hS hl)
theorem zL_sld {i : Int32} (hd : decode code pc = .ok (.iaload, 1)) (hin : vp_in i L) (k : zL l E b L xs A1 A2 a2 h1 cs sl (pc + 1) lv (.int (xs i.toNatClampNeg) :: st) n μ ν) : zL l E b L xs A1 A2 a2 h1 cs sl pc lv (.int i :: .ref b :: st) n μ ν :=
  fun p e s m below meth c F H locs ls hW hS hl => va_sld F.1 F.2.1 F.2.2.2.2.2.2.2.1 F.2.2.2.2.2.2.2.2.1 (fun z => absurd ((F.2.2.2.2.2.2.2.2.2.2.2.2.2.2 b).mp z) (Nat.not_le.mpr F.2.2.2.2.2.2.2.2.1)) hS hin hd (k p e s m below meth c F H locs ls hW hS hl)
theorem zL_slen (hd : decode code pc = .ok (.arraylength, 1)) (k : zL l E b L xs A1 A2 a2 h1 cs sl (pc + 1) lv (.int (nI L) :: st) n μ ν) : zL l E b L xs A1 A2 a2 h1 cs sl pc lv (.ref b :: st) n μ ν :=
  fun p e s m below meth c F H locs ls hW hS hl => va_slen F.1 F.2.1 F.2.2.2.2.2.2.2.1 F.2.2.2.2.2.2.2.2.1 (fun z => absurd ((F.2.2.2.2.2.2.2.2.2.2.2.2.2.2 b).mp z) (Nat.not_le.mpr F.2.2.2.2.2.2.2.2.1)) hS hd (k p e s m below meth c F H locs ls hW hS hl)
/-- the end -/
theorem zL_ret (hc : cs ≤ 600000) (hs : sl ≤ 7302250) (hd : decode code pc = .ok (.ireturn, 1)) : zL l E b L xs A1 A2 a2 h1 cs sl pc lv [.int 1] n μ ν := by
  intro p e s m below meth c F H locs ls hW hS hl
  refine va_forget (fun q hq => (F.2.2.2.2.2.2.2.2.2.2.2.2.2.2 _).mp (hS.2.2 q hq)) ?_
  refine W.widen (k := 600000) (n := 7302250) hc hs ?_
  exact lw_ret F.1 F.2.1 F.2.2.1 F.2.2.2.2.2.2.1 hd
theorem zL_cls {τ : Type} {val' : τ → Option Value} {mem' : τ → zz_Mem} {f' : Option τ} {q : τ} (hcon : ∀ a A, 107 ≤ zz_N (zA_G E a n A) → zz_Con zz_sh l (zA_G E a n A) M' d' (.ref (a 0) :: As) val' mem' f' μ) (hn7 : 107 ≤ n) (hf : f' = some q) (hd : decode code pc = .ok (.invokevirtual idx, 3)) (Lk : zz_LV R_law idx M') (ho : zz_ok M' nn) (hr : M'.1.cls = RX11) (hdd : d' + 1 ≤ 2048) (hn : As.length = nn) (hst : As.reverse ++ .ref h1 :: rest = st) (hW0 : (rest.map fun v => v.category).sum ≤ 8) (hc : cs ≤ 600000) (hs : sl ≤ 7302250)
    (k : zL l E b L xs A1 A2 a2 h1 cs sl (pc + 3) lv ((val' q).toList ++ rest) n (mem' q) ν) : zL l E b L xs A1 A2 a2 h1 cs sl pc lv st n μ ν := by
  intro p e s m below meth c F H locs ls hW hS hl
  obtain ⟨a, ha0, hP1, hD1, hP2, hd2, hAf⟩ := hW
  subst hst
  subst ha0
  have hM := hcon a A1 hn7 q hf
  have hEnv : zz_Env (zA_G E a n A1) s := ⟨F.2.2.2.2.2.2.2.2.2.1.1, hD1, zA_narrow F.2.2.2.2.2.2.2.2.2.1.2.1 rfl rfl F.2.2.2.2.2.2.2.2.2.2.1, F.2.2.2.2.2.2.2.2.2.1.2.2.1, F.2.2.2.2.2.2.2.2.2.1.2.2.2.1⟩
  have hSn : va_S (zz_A (zA_G E a n A1)) s.heap s.heap [] := va_S.rf
  have hts := F.2.2.2.2.2.1
  have hlo : 8 + (M'.2.2.1 + 11) + 40 * d' ≤ 84000 := by
    have := ho.2.2.2
    omega
  intro T hT X
  have hrun := va_runV (R := room_1) (p := p) (e := e) (below := below) (meth := meth) (H := H) (locs := locs) (cells := cs) (slots := sl) (Ts := lw_tbl) (C := M'.1.cls) (As := As) (rest := rest) (g := F0 m pc ls (As.reverse ++ .ref (a 0) :: rest)) ⟨F.1, F.2.1, F.2.2.2.1, F.2.2.2.2.1, hts⟩ hM ⟨callB_of nn hts (zL_goodIn ho.1) rfl rfl rfl (hts _ (zL_in ho.2.1)) (hts _ (zL_in Lk.1)) ho.2.2.1 ⟨hdd, hlo⟩, hts _ (zL_in Lk.2.1), hts _ (zL_in Lk.2.2)⟩
    ⟨zz_blind _, by rw [hr]; exact va_recv hEnv.1 hP1 (ci := 11) (q := (RX11, TX11, 20)) rfl (fs := _) (q0 := 0) (by rw [zz_wd_at (G := zA_G E a n A1) (Nat.lt_of_lt_of_le (by decide) hn7)]; rfl), fun U hU hWm => ⟨rfl, zL_warm hEnv hWm F.2.2.2.2.2.2.2.2.2.2.1 F.2.2.2.2.2.2.2.2.2.1.2.1 rfl rfl (locs := locs) (by rw [hU]; exact hS), by rw [hU]; exact hP1⟩⟩ rfl hn hl.1 rfl (lv_room hW0) hd ⟨hc, hs⟩ T hT X
  obtain ⟨v1, st₀, t, T', L', h0, X', hL, e1, e2, ⟨hv, hp, hz, hk⟩, stp⟩ := hrun
  cases hv
  rw [h0] at hz hk
  obtain ⟨t2, a1, b1⟩ := k p e s m below meth c F T'.heap (locs ++ L') ls ⟨a, rfl, by rw [e1]; exact hp, hD1, by
      rw [e1]
      refine hP2.kept (fun k2 q2 hq2 => ?_)
      obtain ⟨g1, rfl⟩ := zz_wd_inv hq2
      exact hk _ (hP2 k2 _ hq2).lt (F.2.2.2.2.2.2.2.2.2.2.2.2.2.1 k2 g1), hd2, fun q2 hq2 => hAf q2 (Nat.le_trans hz (by rw [← e1]; exact hq2))⟩
    ⟨Nat.le_trans hS.1 (by rw [e1]; exact hz), fun q1 g1 g2 => by rw [e1, hk q1 (Nat.lt_of_lt_of_le g1 hS.1) (fun z => g2 (F.2.2.2.2.2.2.2.2.2.2.1 _ z))]; exact hS.2.1 q1 g1 g2, fun q1 hq1 => by
      rcases List.mem_append.mp hq1 with h | h
      · exact hS.2.2 q1 h
      · exact F.2.2.2.2.2.2.2.2.2.2.1 _ (hL q1 h)⟩ hl T' rfl X'
  exact ⟨t2, stp t2 a1, b1⟩
theorem zL_mod {τ : Type} {val' : τ → Option Value} {mem' : τ → zz_Mem} {f' : Option τ} {q : τ} (hcon : ∀ A, 26 ≤ zz_N (zA_G E a2 26 A) → zz_Con zz_shM l (zA_G E a2 26 A) M' d' (.ref (a2 0) :: As) val' mem' f' ν) (hf : f' = some q) (hd : decode code pc = .ok (.invokevirtual idx, 3)) (Lk : zz_LV R_law idx M') (ho : zz_ok M' nn) (hr : M'.1.cls = RX12) (hdd : d' + 1 ≤ 2048) (hn : As.length = nn) (hst : As.reverse ++ .ref (a2 0) :: rest = st) (hW0 : (rest.map fun v => v.category).sum ≤ 8) (hc : cs ≤ 600000) (hs : sl ≤ 7302250)
    (k : zL l E b L xs A1 A2 a2 h1 cs sl (pc + 3) lv ((val' q).toList ++ rest) n μ (mem' q)) : zL l E b L xs A1 A2 a2 h1 cs sl pc lv st n μ ν := by
  intro p e s m below meth c F H locs ls hW hS hl
  obtain ⟨a, ha0, hP1, hD1, hP2, hd2, hAf⟩ := hW
  subst hst
  have hM := hcon A2 (Nat.le_refl 26) q hf
  have hEnv : zz_Env (zA_G E a2 26 A2) s := ⟨F.2.2.2.2.2.2.2.2.2.1.1, F.2.2.2.2.2.2.2.2.2.2.2.2.1, zA_narrow F.2.2.2.2.2.2.2.2.2.1.2.1 rfl rfl F.2.2.2.2.2.2.2.2.2.2.2.1, F.2.2.2.2.2.2.2.2.2.1.2.2.1, F.2.2.2.2.2.2.2.2.2.1.2.2.2.1⟩
  have hSn : va_S (zz_A (zA_G E a2 26 A2)) s.heap s.heap [] := va_S.rf
  have hts := F.2.2.2.2.2.1
  have hlo : 8 + (M'.2.2.1 + 11) + 40 * d' ≤ 84000 := by
    have := ho.2.2.2
    omega
  intro T hT X
  have hrun := va_runV (R := room_1) (p := p) (e := e) (below := below) (meth := meth) (H := H) (locs := locs) (cells := cs) (slots := sl) (Ts := lw_tbl) (C := M'.1.cls) (As := As) (rest := rest) (g := F0 m pc ls (As.reverse ++ .ref (a2 0) :: rest)) ⟨F.1, F.2.1, F.2.2.2.1, F.2.2.2.2.1, hts⟩ hM ⟨callB_of nn hts (zL_goodIn ho.1) rfl rfl rfl (hts _ (zL_in ho.2.1)) (hts _ (zL_in Lk.1)) ho.2.2.1 ⟨hdd, hlo⟩, hts _ (zL_in Lk.2.1), hts _ (zL_in Lk.2.2)⟩
    ⟨zz_blind _, by rw [hr]; exact va_recv hEnv.1 hP2 (ci := 12) (q := (RX12, TX12, 42)) rfl (fs := _) (q0 := 0) (by rw [zz_wd_at (G := zA_G E a2 26 A2) (show 0 < 26 by decide)]; rfl), fun U hU hWm => ⟨rfl, zL_warm hEnv hWm F.2.2.2.2.2.2.2.2.2.2.2.1 F.2.2.2.2.2.2.2.2.2.1.2.1 rfl rfl (locs := locs) (by rw [hU]; exact hS), by rw [hU]; exact hP2⟩⟩ rfl hn hl.1 rfl (lv_room hW0) hd ⟨hc, hs⟩ T hT X
  obtain ⟨v1, st₀, t, T', L', h0, X', hL, e1, e2, ⟨hv, hp, hz, hk⟩, stp⟩ := hrun
  cases hv
  rw [h0] at hz hk
  obtain ⟨t2, a1, b1⟩ := k p e s m below meth c F T'.heap (locs ++ L') ls ⟨a, ha0, by
      rw [e1]
      refine hP1.kept (fun k2 q2 hq2 => ?_)
      obtain ⟨g1, rfl⟩ := zz_wd_inv hq2
      exact hk _ (hP1 k2 _ hq2).lt (hd2 k2 g1), hD1, by rw [e1]; exact hp, hd2, fun q2 hq2 => hAf q2 (Nat.le_trans hz (by rw [← e1]; exact hq2))⟩
    ⟨Nat.le_trans hS.1 (by rw [e1]; exact hz), fun q1 g1 g2 => by rw [e1, hk q1 (Nat.lt_of_lt_of_le g1 hS.1) (fun z => g2 (F.2.2.2.2.2.2.2.2.2.2.2.1 _ z))]; exact hS.2.1 q1 g1 g2, fun q1 hq1 => by
      rcases List.mem_append.mp hq1 with h | h
      · exact hS.2.2 q1 h
      · exact F.2.2.2.2.2.2.2.2.2.2.2.1 _ (hL q1 h)⟩ hl T' rfl X'
  exact ⟨t2, stp t2 a1, b1⟩
end ZLL
