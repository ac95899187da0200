/-! ===== rows: an instruction each ===== -/
def zz_SH (sh : Nat → zz_Sh) (G : zz_G) (k : Nat) (x : zz_Sh) : Prop := k < zz_N G ∧ sh k = x
/-- a field's link: own class, entry, the object's class, the field's place, its type, whether it is final -/
def zz_FL (own : String) (idx ci i : Nat) (ty : FieldType) (fin : Bool) : Prop := ∃ (C : String) (T : u_T) (n : Nat), zz_cl[ci]? = some (C, T, n) ∧ i < n ∧ Cond.fieldLink own idx (T i).1 (T i).2.1 (T i).2.2.1 ∈ zz_tbl ∧ (∀ w ∈ u_ws C T n, w ∈ zz_tbl) ∧ (∃ ty0 : Nat → FieldType, (∀ k, k < n → parseFieldDescriptor (T k).2.2.1 = some (ty0 k)) ∧ ty0 i = ty) ∧ (∀ a, a < n → ∀ b, b < n → a ≠ b → (T a).2.1 ≠ (T b).2.1) ∧ (T i).2.2.2 = fin
section ZR
variable {sh : Nat → zz_Sh} {l : Launch} {G : zz_G} {M : zz_M} {d : Nat} {τ : Type} {val : τ → Option Value} {mem : τ → zz_Mem} {f f1 f2 : Option τ} {pc : Nat} {lv lv' : List (Nat × Value)} {st : List Value} {μ : zz_Mem}
theorem zs_iconst {n : Int} {v : Int32} (hd : decode M.2.1 pc = .ok (.iconst n, 1)) (hv : Int32.ofInt n = v) (k : zz_Sim sh l G M d val mem f (pc + 1) lv (.int v :: st) μ) : zz_Sim sh l G M d val mem f pc lv st μ :=
  fun q hq p e s m args below meth c C H locs ls hP hS hl => lv_iconst C.1 C.2.1 hd hv (k q hq p e s m args below meth c C H locs ls hP hS hl)
theorem zs_bipush {n : Int} {v : Int32} (hd : decode M.2.1 pc = .ok (.bipush n, 2)) (hv : (Int8.ofInt n).toInt32 = v) (k : zz_Sim sh l G M d val mem f (pc + 2) lv (.int v :: st) μ) : zz_Sim sh l G M d val mem f pc lv st μ :=
  fun q hq p e s m args below meth c C H locs ls hP hS hl => lv_bipush C.1 C.2.1 hd hv (k q hq p e s m args below meth c C H locs ls hP hS hl)
theorem zs_sipush {n : Int} {v : Int32} (hd : decode M.2.1 pc = .ok (.sipush n, 3)) (hv : (Int16.ofInt n).toInt32 = v) (k : zz_Sim sh l G M d val mem f (pc + 3) lv (.int v :: st) μ) : zz_Sim sh l G M d val mem f pc lv st μ :=
  fun q hq p e s m args below meth c C H locs ls hP hS hl => lv_sipush C.1 C.2.1 hd hv (k q hq p e s m args below meth c C H locs ls hP hS hl)
theorem zs_lconst {n : Fin 2} {v : Int64} (hd : decode M.2.1 pc = .ok (.lconst n, 1)) (hv : Int64.ofNat (n : Nat) = v) (k : zz_Sim sh l G M d val mem f (pc + 1) lv (.long v :: st) μ) : zz_Sim sh l G M d val mem f pc lv st μ :=
  fun q hq p e s m args below meth c C H locs ls hP hS hl => lv_lconst C.1 C.2.1 hd hv (k q hq p e s m args below meth c C H locs ls hP hS hl)
theorem zs_ldc {idx : Nat} {v : Int32} (hd : decode M.2.1 pc = .ok (.ldc idx, 2)) (hc : Cond.constant M.1.cls idx v ∈ zz_tbl) (k : zz_Sim sh l G M d val mem f (pc + 2) lv (.int v :: st) μ) : zz_Sim sh l G M d val mem f pc lv st μ :=
  fun q hq p e s m args below meth c C H locs ls hP hS hl => lv_ldc C.1 C.2.1 C.2.2.2.2.1 (C.2.2.2.2.2.1 _ (List.mem_cons_of_mem _ hc)) hd (k q hq p e s m args below meth c C H locs ls hP hS hl)
theorem zs_ldcw {idx : Nat} {v : Int32} (hd : decode M.2.1 pc = .ok (.ldc_w idx, 3)) (hc : Cond.constant M.1.cls idx v ∈ zz_tbl) (k : zz_Sim sh l G M d val mem f (pc + 3) lv (.int v :: st) μ) : zz_Sim sh l G M d val mem f pc lv st μ :=
  fun q hq p e s m args below meth c C H locs ls hP hS hl => lv_ldcw C.1 C.2.1 C.2.2.2.2.1 (C.2.2.2.2.2.1 _ (List.mem_cons_of_mem _ hc)) hd (k q hq p e s m args below meth c C H locs ls hP hS hl)
theorem zs_ldc2 {idx : Nat} {v : Int64} (hd : decode M.2.1 pc = .ok (.ldc2_w idx, 3)) (hc : Cond.constantLong M.1.cls idx v ∈ zz_tbl) (k : zz_Sim sh l G M d val mem f (pc + 3) lv (.long v :: st) μ) : zz_Sim sh l G M d val mem f pc lv st μ :=
  fun q hq p e s m args below meth c C H locs ls hP hS hl => lv_ldc2 C.1 C.2.1 C.2.2.2.2.1 (C.2.2.2.2.2.1 _ (List.mem_cons_of_mem _ hc)) hd (k q hq p e s m args below meth c C H locs ls hP hS hl)
theorem zs_iload_n {j : Fin 4} {i : Nat} {x : Int32} (hd : decode M.2.1 pc = .ok (.iload_n j, 1)) (hi : (j : Nat) = i) (pl : Nat) (hl0 : lv[pl]? = some (i, .int x)) (k : zz_Sim sh l G M d val mem f (pc + 1) lv (.int x :: st) μ) : zz_Sim sh l G M d val mem f pc lv st μ :=
  fun q hq p e s m args below meth c C H locs ls hP hS hl => lv_iload_n C.1 C.2.1 hd hi (lv_at hl pl hl0) (k q hq p e s m args below meth c C H locs ls hP hS hl)
theorem zs_iload {i : Nat} {x : Int32} (hd : decode M.2.1 pc = .ok (.iload i, 2)) (pl : Nat) (hl0 : lv[pl]? = some (i, .int x)) (k : zz_Sim sh l G M d val mem f (pc + 2) lv (.int x :: st) μ) : zz_Sim sh l G M d val mem f pc lv st μ :=
  fun q hq p e s m args below meth c C H locs ls hP hS hl => lv_iload C.1 C.2.1 hd (lv_at hl pl hl0) (k q hq p e s m args below meth c C H locs ls hP hS hl)
theorem zs_lload_n {j : Fin 4} {i : Nat} {x : Int64} (hd : decode M.2.1 pc = .ok (.lload_n j, 1)) (hi : (j : Nat) = i) (pl : Nat) (hl0 : lv[pl]? = some (i, .long x)) (k : zz_Sim sh l G M d val mem f (pc + 1) lv (.long x :: st) μ) : zz_Sim sh l G M d val mem f pc lv st μ :=
  fun q hq p e s m args below meth c C H locs ls hP hS hl => lv_lload_n C.1 C.2.1 hd hi (lv_at hl pl hl0) (k q hq p e s m args below meth c C H locs ls hP hS hl)
theorem zs_lload {i : Nat} {x : Int64} (hd : decode M.2.1 pc = .ok (.lload i, 2)) (pl : Nat) (hl0 : lv[pl]? = some (i, .long x)) (k : zz_Sim sh l G M d val mem f (pc + 2) lv (.long x :: st) μ) : zz_Sim sh l G M d val mem f pc lv st μ :=
  fun q hq p e s m args below meth c C H locs ls hP hS hl => lv_lload C.1 C.2.1 hd (lv_at hl pl hl0) (k q hq p e s m args below meth c C H locs ls hP hS hl)
theorem zs_aload_n {j : Fin 4} {i : Nat} {x : Nat} (hd : decode M.2.1 pc = .ok (.aload_n j, 1)) (hi : (j : Nat) = i) (pl : Nat) (hl0 : lv[pl]? = some (i, .ref x)) (k : zz_Sim sh l G M d val mem f (pc + 1) lv (.ref x :: st) μ) : zz_Sim sh l G M d val mem f pc lv st μ :=
  fun q hq p e s m args below meth c C H locs ls hP hS hl => lv_aload_n C.1 C.2.1 hd hi (lv_at hl pl hl0) (k q hq p e s m args below meth c C H locs ls hP hS hl)
theorem zs_aload {i : Nat} {x : Nat} (hd : decode M.2.1 pc = .ok (.aload i, 2)) (pl : Nat) (hl0 : lv[pl]? = some (i, .ref x)) (k : zz_Sim sh l G M d val mem f (pc + 2) lv (.ref x :: st) μ) : zz_Sim sh l G M d val mem f pc lv st μ :=
  fun q hq p e s m args below meth c C H locs ls hP hS hl => lv_aload C.1 C.2.1 hd (lv_at hl pl hl0) (k q hq p e s m args below meth c C H locs ls hP hS hl)
theorem zs_istore_n {j : Fin 4} {i : Nat} {x : Int32} (lv' : List (Nat × Value)) (hd : decode M.2.1 pc = .ok (.istore_n j, 1)) (hi : (j : Nat) = i) (hn : i < M.2.2.1) (h0 : (i, Value.int x) :: lv.filter (fun q => !(q.1 == i) && !(q.1 + 1 == i && q.2.category == 2)) = lv') (k : zz_Sim sh l G M d val mem f (pc + 1) lv' st μ) : zz_Sim sh l G M d val mem f pc lv (.int x :: st) μ :=
  fun q hq p e s m args below meth c C H locs ls hP hS hl => lv_istore_n C.1 C.2.1 hd hi hl hn h0 (fun ls hl => k q hq p e s m args below meth c C H locs ls hP hS hl)
theorem zs_istore {i : Nat} {x : Int32} (lv' : List (Nat × Value)) (hd : decode M.2.1 pc = .ok (.istore i, 2)) (hn : i < M.2.2.1) (h0 : (i, Value.int x) :: lv.filter (fun q => !(q.1 == i) && !(q.1 + 1 == i && q.2.category == 2)) = lv') (k : zz_Sim sh l G M d val mem f (pc + 2) lv' st μ) : zz_Sim sh l G M d val mem f pc lv (.int x :: st) μ :=
  fun q hq p e s m args below meth c C H locs ls hP hS hl => lv_istore C.1 C.2.1 hd hl hn h0 (fun ls hl => k q hq p e s m args below meth c C H locs ls hP hS hl)
theorem zs_lstore_n {j : Fin 4} {i : Nat} {x : Int64} (lv' : List (Nat × Value)) (hd : decode M.2.1 pc = .ok (.lstore_n j, 1)) (hi : (j : Nat) = i) (hn : i + 1 < M.2.2.1) (h0 : (i, Value.long x) :: lv.filter (fun q => !(q.1 == i) && (!(q.1 == i + 1) && !(q.1 + 1 == i && q.2.category == 2))) = lv') (k : zz_Sim sh l G M d val mem f (pc + 1) lv' st μ) : zz_Sim sh l G M d val mem f pc lv (.long x :: st) μ :=
  fun q hq p e s m args below meth c C H locs ls hP hS hl => lv_lstore_n C.1 C.2.1 hd hi hl hn h0 (fun ls hl => k q hq p e s m args below meth c C H locs ls hP hS hl)
theorem zs_lstore {i : Nat} {x : Int64} (lv' : List (Nat × Value)) (hd : decode M.2.1 pc = .ok (.lstore i, 2)) (hn : i + 1 < M.2.2.1) (h0 : (i, Value.long x) :: lv.filter (fun q => !(q.1 == i) && (!(q.1 == i + 1) && !(q.1 + 1 == i && q.2.category == 2))) = lv') (k : zz_Sim sh l G M d val mem f (pc + 2) lv' st μ) : zz_Sim sh l G M d val mem f pc lv (.long x :: st) μ :=
  fun q hq p e s m args below meth c C H locs ls hP hS hl => lv_lstore C.1 C.2.1 hd hl hn h0 (fun ls hl => k q hq p e s m args below meth c C H locs ls hP hS hl)
theorem zs_astore_n {j : Fin 4} {i : Nat} {x : Nat} (lv' : List (Nat × Value)) (hd : decode M.2.1 pc = .ok (.astore_n j, 1)) (hi : (j : Nat) = i) (hn : i < M.2.2.1) (h0 : (i, Value.ref x) :: lv.filter (fun q => !(q.1 == i) && !(q.1 + 1 == i && q.2.category == 2)) = lv') (k : zz_Sim sh l G M d val mem f (pc + 1) lv' st μ) : zz_Sim sh l G M d val mem f pc lv (.ref x :: st) μ :=
  fun q hq p e s m args below meth c C H locs ls hP hS hl => lv_astore_n C.1 C.2.1 hd hi hl hn h0 (fun ls hl => k q hq p e s m args below meth c C H locs ls hP hS hl)
theorem zs_astore {i : Nat} {x : Nat} (lv' : List (Nat × Value)) (hd : decode M.2.1 pc = .ok (.astore i, 2)) (hn : i < M.2.2.1) (h0 : (i, Value.ref x) :: lv.filter (fun q => !(q.1 == i) && !(q.1 + 1 == i && q.2.category == 2)) = lv') (k : zz_Sim sh l G M d val mem f (pc + 2) lv' st μ) : zz_Sim sh l G M d val mem f pc lv (.ref x :: st) μ :=
  fun q hq p e s m args below meth c C H locs ls hP hS hl => lv_astore C.1 C.2.1 hd hl hn h0 (fun ls hl => k q hq p e s m args below meth c C H locs ls hP hS hl)
theorem zs_iinc {i : Nat} {n : Int} {x v : Int32} {K : Int32 → Option τ} (lv' : Int32 → List (Nat × Value)) (hd : decode M.2.1 pc = .ok (.iinc i n, 3)) (pl : Nat) (hl0 : lv[pl]? = some (i, .int x)) (hv : Int32.ofInt n = v) (hn : i < M.2.2.1) (h0 : ∀ y, (i, Value.int y) :: lv.filter (fun q => !(q.1 == i) && !(q.1 + 1 == i && q.2.category == 2)) = lv' y) (k : ∀ y, zz_Sim sh l G M d val mem (K y) (pc + 3) (lv' y) st μ) : zz_Sim sh l G M d val mem (zz_letI (x + v) K) pc lv st μ := by
  subst hv
  exact fun q hq p e s m args below meth c C H locs ls hP hS hl => lv_iinc C.1 C.2.1 hd hl hl0 rfl hn (h0 _) (fun ls hl => k _ q hq p e s m args below meth c C H locs ls hP hS hl)
theorem zs_iadd {x y : Int32} (hd : decode M.2.1 pc = .ok (.iadd, 1)) (k : zz_Sim sh l G M d val mem f (pc + 1) lv (.int (x + y) :: st) μ) : zz_Sim sh l G M d val mem f pc lv (.int y :: .int x :: st) μ :=
  fun q hq p e s m args below meth c C H locs ls hP hS hl => lv_iadd C.1 C.2.1 hd  (k q hq p e s m args below meth c C H locs ls hP hS hl)
theorem zs_isub {x y : Int32} (hd : decode M.2.1 pc = .ok (.isub, 1)) (k : zz_Sim sh l G M d val mem f (pc + 1) lv (.int (x - y) :: st) μ) : zz_Sim sh l G M d val mem f pc lv (.int y :: .int x :: st) μ :=
  fun q hq p e s m args below meth c C H locs ls hP hS hl => lv_isub C.1 C.2.1 hd  (k q hq p e s m args below meth c C H locs ls hP hS hl)
theorem zs_imul {x y : Int32} (hd : decode M.2.1 pc = .ok (.imul, 1)) (k : zz_Sim sh l G M d val mem f (pc + 1) lv (.int (x * y) :: st) μ) : zz_Sim sh l G M d val mem f pc lv (.int y :: .int x :: st) μ :=
  fun q hq p e s m args below meth c C H locs ls hP hS hl => lv_imul C.1 C.2.1 hd  (k q hq p e s m args below meth c C H locs ls hP hS hl)
theorem zs_iand {x y : Int32} (hd : decode M.2.1 pc = .ok (.iand, 1)) (k : zz_Sim sh l G M d val mem f (pc + 1) lv (.int (x &&& y) :: st) μ) : zz_Sim sh l G M d val mem f pc lv (.int y :: .int x :: st) μ :=
  fun q hq p e s m args below meth c C H locs ls hP hS hl => lv_iand C.1 C.2.1 hd  (k q hq p e s m args below meth c C H locs ls hP hS hl)
theorem zs_ior {x y : Int32} (hd : decode M.2.1 pc = .ok (.ior, 1)) (k : zz_Sim sh l G M d val mem f (pc + 1) lv (.int (x ||| y) :: st) μ) : zz_Sim sh l G M d val mem f pc lv (.int y :: .int x :: st) μ :=
  fun q hq p e s m args below meth c C H locs ls hP hS hl => lv_ior C.1 C.2.1 hd  (k q hq p e s m args below meth c C H locs ls hP hS hl)
theorem zs_ixor {x y : Int32} (hd : decode M.2.1 pc = .ok (.ixor, 1)) (k : zz_Sim sh l G M d val mem f (pc + 1) lv (.int (x ^^^ y) :: st) μ) : zz_Sim sh l G M d val mem f pc lv (.int y :: .int x :: st) μ :=
  fun q hq p e s m args below meth c C H locs ls hP hS hl => lv_ixor C.1 C.2.1 hd  (k q hq p e s m args below meth c C H locs ls hP hS hl)
theorem zs_ishl {x y : Int32} (hd : decode M.2.1 pc = .ok (.ishl, 1)) (k : zz_Sim sh l G M d val mem f (pc + 1) lv (.int (x <<< (y &&& 31)) :: st) μ) : zz_Sim sh l G M d val mem f pc lv (.int y :: .int x :: st) μ :=
  fun q hq p e s m args below meth c C H locs ls hP hS hl => lv_ishl C.1 C.2.1 hd  (k q hq p e s m args below meth c C H locs ls hP hS hl)
theorem zs_ishr {x y : Int32} (hd : decode M.2.1 pc = .ok (.ishr, 1)) (k : zz_Sim sh l G M d val mem f (pc + 1) lv (.int (x >>> (y &&& 31)) :: st) μ) : zz_Sim sh l G M d val mem f pc lv (.int y :: .int x :: st) μ :=
  fun q hq p e s m args below meth c C H locs ls hP hS hl => lv_ishr C.1 C.2.1 hd  (k q hq p e s m args below meth c C H locs ls hP hS hl)
theorem zs_ladd {x y : Int64} (hd : decode M.2.1 pc = .ok (.ladd, 1)) (k : zz_Sim sh l G M d val mem f (pc + 1) lv (.long (x + y) :: st) μ) : zz_Sim sh l G M d val mem f pc lv (.long y :: .long x :: st) μ :=
  fun q hq p e s m args below meth c C H locs ls hP hS hl => lv_ladd C.1 C.2.1 hd  (k q hq p e s m args below meth c C H locs ls hP hS hl)
theorem zs_lsub {x y : Int64} (hd : decode M.2.1 pc = .ok (.lsub, 1)) (k : zz_Sim sh l G M d val mem f (pc + 1) lv (.long (x - y) :: st) μ) : zz_Sim sh l G M d val mem f pc lv (.long y :: .long x :: st) μ :=
  fun q hq p e s m args below meth c C H locs ls hP hS hl => lv_lsub C.1 C.2.1 hd  (k q hq p e s m args below meth c C H locs ls hP hS hl)
theorem zs_lmul {x y : Int64} (hd : decode M.2.1 pc = .ok (.lmul, 1)) (k : zz_Sim sh l G M d val mem f (pc + 1) lv (.long (x * y) :: st) μ) : zz_Sim sh l G M d val mem f pc lv (.long y :: .long x :: st) μ :=
  fun q hq p e s m args below meth c C H locs ls hP hS hl => lv_lmul C.1 C.2.1 hd  (k q hq p e s m args below meth c C H locs ls hP hS hl)
theorem zs_land {x y : Int64} (hd : decode M.2.1 pc = .ok (.land, 1)) (k : zz_Sim sh l G M d val mem f (pc + 1) lv (.long (x &&& y) :: st) μ) : zz_Sim sh l G M d val mem f pc lv (.long y :: .long x :: st) μ :=
  fun q hq p e s m args below meth c C H locs ls hP hS hl => lv_land C.1 C.2.1 hd  (k q hq p e s m args below meth c C H locs ls hP hS hl)
theorem zs_lor {x y : Int64} (hd : decode M.2.1 pc = .ok (.lor, 1)) (k : zz_Sim sh l G M d val mem f (pc + 1) lv (.long (x ||| y) :: st) μ) : zz_Sim sh l G M d val mem f pc lv (.long y :: .long x :: st) μ :=
  fun q hq p e s m args below meth c C H locs ls hP hS hl => lv_lor C.1 C.2.1 hd  (k q hq p e s m args below meth c C H locs ls hP hS hl)
theorem zs_lxor {x y : Int64} (hd : decode M.2.1 pc = .ok (.lxor, 1)) (k : zz_Sim sh l G M d val mem f (pc + 1) lv (.long (x ^^^ y) :: st) μ) : zz_Sim sh l G M d val mem f pc lv (.long y :: .long x :: st) μ :=
  fun q hq p e s m args below meth c C H locs ls hP hS hl => lv_lxor C.1 C.2.1 hd  (k q hq p e s m args below meth c C H locs ls hP hS hl)
theorem zs_ineg {x : Int32} (hd : decode M.2.1 pc = .ok (.ineg, 1)) (k : zz_Sim sh l G M d val mem f (pc + 1) lv (.int (-x) :: st) μ) : zz_Sim sh l G M d val mem f pc lv (.int x :: st) μ :=
  fun q hq p e s m args below meth c C H locs ls hP hS hl => lv_ineg C.1 C.2.1 hd  (k q hq p e s m args below meth c C H locs ls hP hS hl)
theorem zs_lneg {x : Int64} (hd : decode M.2.1 pc = .ok (.lneg, 1)) (k : zz_Sim sh l G M d val mem f (pc + 1) lv (.long (-x) :: st) μ) : zz_Sim sh l G M d val mem f pc lv (.long x :: st) μ :=
  fun q hq p e s m args below meth c C H locs ls hP hS hl => lv_lneg C.1 C.2.1 hd  (k q hq p e s m args below meth c C H locs ls hP hS hl)
theorem zs_i2l {x : Int32} (hd : decode M.2.1 pc = .ok (.i2l, 1)) (k : zz_Sim sh l G M d val mem f (pc + 1) lv (.long (x.toInt64) :: st) μ) : zz_Sim sh l G M d val mem f pc lv (.int x :: st) μ :=
  fun q hq p e s m args below meth c C H locs ls hP hS hl => lv_i2l C.1 C.2.1 hd rfl (k q hq p e s m args below meth c C H locs ls hP hS hl)
theorem zs_l2i {x : Int64} (hd : decode M.2.1 pc = .ok (.l2i, 1)) (k : zz_Sim sh l G M d val mem f (pc + 1) lv (.int (x.toInt32) :: st) μ) : zz_Sim sh l G M d val mem f pc lv (.long x :: st) μ :=
  fun q hq p e s m args below meth c C H locs ls hP hS hl => lv_l2i C.1 C.2.1 hd rfl (k q hq p e s m args below meth c C H locs ls hP hS hl)
theorem zs_i2b {x : Int32} (hd : decode M.2.1 pc = .ok (.i2b, 1)) (k : zz_Sim sh l G M d val mem f (pc + 1) lv (.int (x.toInt8.toInt32) :: st) μ) : zz_Sim sh l G M d val mem f pc lv (.int x :: st) μ :=
  fun q hq p e s m args below meth c C H locs ls hP hS hl => lv_i2b C.1 C.2.1 hd rfl (k q hq p e s m args below meth c C H locs ls hP hS hl)
theorem zs_i2s {x : Int32} (hd : decode M.2.1 pc = .ok (.i2s, 1)) (k : zz_Sim sh l G M d val mem f (pc + 1) lv (.int (x.toInt16.toInt32) :: st) μ) : zz_Sim sh l G M d val mem f pc lv (.int x :: st) μ :=
  fun q hq p e s m args below meth c C H locs ls hP hS hl => lv_i2s C.1 C.2.1 hd rfl (k q hq p e s m args below meth c C H locs ls hP hS hl)
theorem zs_i2c {x : Int32} (hd : decode M.2.1 pc = .ok (.i2c, 1)) (k : zz_Sim sh l G M d val mem f (pc + 1) lv (.int ((x.toUInt32 % 65536).toInt32) :: st) μ) : zz_Sim sh l G M d val mem f pc lv (.int x :: st) μ :=
  fun q hq p e s m args below meth c C H locs ls hP hS hl => lv_i2c C.1 C.2.1 hd rfl (k q hq p e s m args below meth c C H locs ls hP hS hl)
theorem zs_iushr {x y : Int32} (hd : decode M.2.1 pc = .ok (.iushr, 1)) (k : zz_Sim sh l G M d val mem f (pc + 1) lv (.int ((x.toUInt32 >>> (y.toUInt32 &&& Int32.toUInt32 31)).toInt32) :: st) μ) : zz_Sim sh l G M d val mem f pc lv (.int y :: .int x :: st) μ :=
  fun q hq p e s m args below meth c C H locs ls hP hS hl => lv_iushr C.1 C.2.1 hd rfl (k q hq p e s m args below meth c C H locs ls hP hS hl)
theorem zs_lushr {x : Int64} {y : Int32} (hd : decode M.2.1 pc = .ok (.lushr, 1)) (k : zz_Sim sh l G M d val mem f (pc + 1) lv (.long ((x.toUInt64 >>> (y.toInt64.toUInt64 &&& Int64.toUInt64 63)).toInt64) :: st) μ) : zz_Sim sh l G M d val mem f pc lv (.int y :: .long x :: st) μ :=
  fun q hq p e s m args below meth c C H locs ls hP hS hl => lv_lushr C.1 C.2.1 hd rfl (k q hq p e s m args below meth c C H locs ls hP hS hl)
theorem zs_lshl {x : Int64} {y : Int32} (hd : decode M.2.1 pc = .ok (.lshl, 1)) (k : zz_Sim sh l G M d val mem f (pc + 1) lv (.long (x <<< (y.toInt64 &&& 63)) :: st) μ) : zz_Sim sh l G M d val mem f pc lv (.int y :: .long x :: st) μ :=
  fun q hq p e s m args below meth c C H locs ls hP hS hl => lv_lshl C.1 C.2.1 hd rfl (k q hq p e s m args below meth c C H locs ls hP hS hl)
theorem zs_lshr {x : Int64} {y : Int32} (hd : decode M.2.1 pc = .ok (.lshr, 1)) (k : zz_Sim sh l G M d val mem f (pc + 1) lv (.long (x >>> (y.toInt64 &&& 63)) :: st) μ) : zz_Sim sh l G M d val mem f pc lv (.int y :: .long x :: st) μ :=
  fun q hq p e s m args below meth c C H locs ls hP hS hl => lv_lshr C.1 C.2.1 hd rfl (k q hq p e s m args below meth c C H locs ls hP hS hl)
theorem zs_idiv {x y : Int32} (hd : decode M.2.1 pc = .ok (.idiv, 1)) (hne : ¬ y = 0) (k : zz_Sim sh l G M d val mem f (pc + 1) lv (.int (x / y) :: st) μ) : zz_Sim sh l G M d val mem f pc lv (.int y :: .int x :: st) μ :=
  fun q hq p e s m args below meth c C H locs ls hP hS hl => lv_idiv C.1 C.2.1 hd hne (k q hq p e s m args below meth c C H locs ls hP hS hl)
theorem zs_idivG {x y : Int32} (hd : decode M.2.1 pc = .ok (.idiv, 1)) (k : zz_Sim sh l G M d val mem f (pc + 1) lv (.int (x / y) :: st) μ) : zz_Sim sh l G M d val mem (zz_nz y f) pc lv (.int y :: .int x :: st) μ := by
  unfold zz_nz
  by_cases h : y = 0
  · rw [if_pos h]; exact zs_none
  · rw [if_neg h]; exact zs_idiv hd h k
theorem zs_irem {x y : Int32} (hd : decode M.2.1 pc = .ok (.irem, 1)) (hne : ¬ y = 0) (k : zz_Sim sh l G M d val mem f (pc + 1) lv (.int (x - x / y * y) :: st) μ) : zz_Sim sh l G M d val mem f pc lv (.int y :: .int x :: st) μ :=
  fun q hq p e s m args below meth c C H locs ls hP hS hl => lv_irem C.1 C.2.1 hd hne (k q hq p e s m args below meth c C H locs ls hP hS hl)
theorem zs_iremG {x y : Int32} (hd : decode M.2.1 pc = .ok (.irem, 1)) (k : zz_Sim sh l G M d val mem f (pc + 1) lv (.int (x - x / y * y) :: st) μ) : zz_Sim sh l G M d val mem (zz_nz y f) pc lv (.int y :: .int x :: st) μ := by
  unfold zz_nz
  by_cases h : y = 0
  · rw [if_pos h]; exact zs_none
  · rw [if_neg h]; exact zs_irem hd h k
theorem zs_ldiv {x y : Int64} (hd : decode M.2.1 pc = .ok (.ldiv, 1)) (hne : ¬ y = 0) (k : zz_Sim sh l G M d val mem f (pc + 1) lv (.long (x / y) :: st) μ) : zz_Sim sh l G M d val mem f pc lv (.long y :: .long x :: st) μ :=
  fun q hq p e s m args below meth c C H locs ls hP hS hl => lv_ldiv C.1 C.2.1 hd hne (k q hq p e s m args below meth c C H locs ls hP hS hl)
theorem zs_ldivG {x y : Int64} (hd : decode M.2.1 pc = .ok (.ldiv, 1)) (k : zz_Sim sh l G M d val mem f (pc + 1) lv (.long (x / y) :: st) μ) : zz_Sim sh l G M d val mem (zz_nzJ y f) pc lv (.long y :: .long x :: st) μ := by
  unfold zz_nzJ
  by_cases h : y = 0
  · rw [if_pos h]; exact zs_none
  · rw [if_neg h]; exact zs_ldiv hd h k
theorem zs_lrem {x y : Int64} (hd : decode M.2.1 pc = .ok (.lrem, 1)) (hne : ¬ y = 0) (k : zz_Sim sh l G M d val mem f (pc + 1) lv (.long (x - x / y * y) :: st) μ) : zz_Sim sh l G M d val mem f pc lv (.long y :: .long x :: st) μ :=
  fun q hq p e s m args below meth c C H locs ls hP hS hl => lv_lrem C.1 C.2.1 hd hne (k q hq p e s m args below meth c C H locs ls hP hS hl)
theorem zs_lremG {x y : Int64} (hd : decode M.2.1 pc = .ok (.lrem, 1)) (k : zz_Sim sh l G M d val mem f (pc + 1) lv (.long (x - x / y * y) :: st) μ) : zz_Sim sh l G M d val mem (zz_nzJ y f) pc lv (.long y :: .long x :: st) μ := by
  unfold zz_nzJ
  by_cases h : y = 0
  · rw [if_pos h]; exact zs_none
  · rw [if_neg h]; exact zs_lrem hd h k
theorem zs_dup {va : Value} (hd : decode M.2.1 pc = .ok (.dup, 1)) (h1 : va.category = 1) (k : zz_Sim sh l G M d val mem f (pc + 1) lv (va :: va :: st) μ) : zz_Sim sh l G M d val mem f pc lv (va :: st) μ :=
  fun q hq p e s m args below meth c C H locs ls hP hS hl => lv_dup C.1 C.2.1 hd h1 (k q hq p e s m args below meth c C H locs ls hP hS hl)
theorem zs_pop {va : Value} (hd : decode M.2.1 pc = .ok (.pop, 1)) (h1 : va.category = 1) (k : zz_Sim sh l G M d val mem f (pc + 1) lv st μ) : zz_Sim sh l G M d val mem f pc lv (va :: st) μ :=
  fun q hq p e s m args below meth c C H locs ls hP hS hl => lv_pop C.1 C.2.1 hd h1 (k q hq p e s m args below meth c C H locs ls hP hS hl)
theorem zs_dup_x1 {va vb : Value} (hd : decode M.2.1 pc = .ok (.dup_x1, 1)) (h1 : va.category = 1) (h2 : vb.category = 1) (k : zz_Sim sh l G M d val mem f (pc + 1) lv (va :: vb :: va :: st) μ) : zz_Sim sh l G M d val mem f pc lv (va :: vb :: st) μ :=
  fun q hq p e s m args below meth c C H locs ls hP hS hl => lv_dup_x1 C.1 C.2.1 hd h1 h2 (k q hq p e s m args below meth c C H locs ls hP hS hl)
theorem zs_dup2_11 {va vb : Value} (hd : decode M.2.1 pc = .ok (.dup2, 1)) (h1 : va.category = 1) (h2 : vb.category = 1) (k : zz_Sim sh l G M d val mem f (pc + 1) lv (va :: vb :: va :: vb :: st) μ) : zz_Sim sh l G M d val mem f pc lv (va :: vb :: st) μ :=
  fun q hq p e s m args below meth c C H locs ls hP hS hl => lv_dup2_11 C.1 C.2.1 hd h1 h2 (k q hq p e s m args below meth c C H locs ls hP hS hl)
theorem zs_dup2_2 {va : Value} (hd : decode M.2.1 pc = .ok (.dup2, 1)) (h1 : va.category = 2) (k : zz_Sim sh l G M d val mem f (pc + 1) lv (va :: va :: st) μ) : zz_Sim sh l G M d val mem f pc lv (va :: st) μ :=
  fun q hq p e s m args below meth c C H locs ls hP hS hl => lv_dup2_2 C.1 C.2.1 hd h1 (k q hq p e s m args below meth c C H locs ls hP hS hl)
theorem zs_ite {c : Prop} [Decidable c] (k1 : c → zz_Sim sh l G M d val mem f1 pc lv st μ) (k2 : ¬ c → zz_Sim sh l G M d val mem f2 pc lv st μ) : zz_Sim sh l G M d val mem (if c then f1 else f2) pc lv st μ := by
  by_cases h : c
  · rw [if_pos h]; exact k1 h
  · rw [if_neg h]; exact k2 h
theorem zs_icmp_eq {x y : Int32} {off : Int} {tgt : Nat} (hd : decode M.2.1 pc = .ok (.if_icmp .eq off, 3)) (ht : (pc : Int) + off = (tgt : Int)) (k1 : zz_Sim sh l G M d val mem f1 tgt lv st μ) (k2 : zz_Sim sh l G M d val mem f2 (pc + 3) lv st μ) : zz_Sim sh l G M d val mem (if x = y then f1 else f2) pc lv (.int y :: .int x :: st) μ := by
  intro q hq p e s m args below meth c C H locs ls hP hS hl
  refine lv_icmp_eq C.1 C.2.1 hd ht (fun h => ?_) (fun h => ?_)
  · rw [if_pos h] at hq; exact k1 q hq p e s m args below meth c C H locs ls hP hS hl
  · rw [if_neg h] at hq; exact k2 q hq p e s m args below meth c C H locs ls hP hS hl
theorem zs_if_eq {x : Int32} {off : Int} {tgt : Nat} (hd : decode M.2.1 pc = .ok (.ifCond .eq off, 3)) (ht : (pc : Int) + off = (tgt : Int)) (k1 : zz_Sim sh l G M d val mem f1 tgt lv st μ) (k2 : zz_Sim sh l G M d val mem f2 (pc + 3) lv st μ) : zz_Sim sh l G M d val mem (if x = 0 then f1 else f2) pc lv (.int x :: st) μ := by
  intro q hq p e s m args below meth c C H locs ls hP hS hl
  refine lv_if_eq C.1 C.2.1 hd ht (fun h => ?_) (fun h => ?_)
  · rw [if_pos h] at hq; exact k1 q hq p e s m args below meth c C H locs ls hP hS hl
  · rw [if_neg h] at hq; exact k2 q hq p e s m args below meth c C H locs ls hP hS hl
theorem zs_icmp_ne {x y : Int32} {off : Int} {tgt : Nat} (hd : decode M.2.1 pc = .ok (.if_icmp .ne off, 3)) (ht : (pc : Int) + off = (tgt : Int)) (k1 : zz_Sim sh l G M d val mem f2 tgt lv st μ) (k2 : zz_Sim sh l G M d val mem f1 (pc + 3) lv st μ) : zz_Sim sh l G M d val mem (if x = y then f1 else f2) pc lv (.int y :: .int x :: st) μ := by
  intro q hq p e s m args below meth c C H locs ls hP hS hl
  refine lv_icmp_ne C.1 C.2.1 hd ht (fun h => ?_) (fun h => ?_)
  · rw [if_neg h] at hq; exact k1 q hq p e s m args below meth c C H locs ls hP hS hl
  · rw [if_pos h] at hq; exact k2 q hq p e s m args below meth c C H locs ls hP hS hl
theorem zs_if_ne {x : Int32} {off : Int} {tgt : Nat} (hd : decode M.2.1 pc = .ok (.ifCond .ne off, 3)) (ht : (pc : Int) + off = (tgt : Int)) (k1 : zz_Sim sh l G M d val mem f2 tgt lv st μ) (k2 : zz_Sim sh l G M d val mem f1 (pc + 3) lv st μ) : zz_Sim sh l G M d val mem (if x = 0 then f1 else f2) pc lv (.int x :: st) μ := by
  intro q hq p e s m args below meth c C H locs ls hP hS hl
  refine lv_if_ne C.1 C.2.1 hd ht (fun h => ?_) (fun h => ?_)
  · rw [if_neg h] at hq; exact k1 q hq p e s m args below meth c C H locs ls hP hS hl
  · rw [if_pos h] at hq; exact k2 q hq p e s m args below meth c C H locs ls hP hS hl
theorem zs_icmp_lt {x y : Int32} {off : Int} {tgt : Nat} (hd : decode M.2.1 pc = .ok (.if_icmp .lt off, 3)) (ht : (pc : Int) + off = (tgt : Int)) (k1 : zz_Sim sh l G M d val mem f1 tgt lv st μ) (k2 : zz_Sim sh l G M d val mem f2 (pc + 3) lv st μ) : zz_Sim sh l G M d val mem (if x < y then f1 else f2) pc lv (.int y :: .int x :: st) μ := by
  intro q hq p e s m args below meth c C H locs ls hP hS hl
  refine lv_icmp_lt C.1 C.2.1 hd ht (fun h => ?_) (fun h => ?_)
  · rw [if_pos h] at hq; exact k1 q hq p e s m args below meth c C H locs ls hP hS hl
  · rw [if_neg h] at hq; exact k2 q hq p e s m args below meth c C H locs ls hP hS hl
theorem zs_if_lt {x : Int32} {off : Int} {tgt : Nat} (hd : decode M.2.1 pc = .ok (.ifCond .lt off, 3)) (ht : (pc : Int) + off = (tgt : Int)) (k1 : zz_Sim sh l G M d val mem f1 tgt lv st μ) (k2 : zz_Sim sh l G M d val mem f2 (pc + 3) lv st μ) : zz_Sim sh l G M d val mem (if x < 0 then f1 else f2) pc lv (.int x :: st) μ := by
  intro q hq p e s m args below meth c C H locs ls hP hS hl
  refine lv_if_lt C.1 C.2.1 hd ht (fun h => ?_) (fun h => ?_)
  · rw [if_pos h] at hq; exact k1 q hq p e s m args below meth c C H locs ls hP hS hl
  · rw [if_neg h] at hq; exact k2 q hq p e s m args below meth c C H locs ls hP hS hl
theorem zs_icmp_ge {x y : Int32} {off : Int} {tgt : Nat} (hd : decode M.2.1 pc = .ok (.if_icmp .ge off, 3)) (ht : (pc : Int) + off = (tgt : Int)) (k1 : zz_Sim sh l G M d val mem f1 tgt lv st μ) (k2 : zz_Sim sh l G M d val mem f2 (pc + 3) lv st μ) : zz_Sim sh l G M d val mem (if y ≤ x then f1 else f2) pc lv (.int y :: .int x :: st) μ := by
  intro q hq p e s m args below meth c C H locs ls hP hS hl
  refine lv_icmp_ge C.1 C.2.1 hd ht (fun h => ?_) (fun h => ?_)
  · rw [if_pos h] at hq; exact k1 q hq p e s m args below meth c C H locs ls hP hS hl
  · rw [if_neg h] at hq; exact k2 q hq p e s m args below meth c C H locs ls hP hS hl
theorem zs_if_ge {x : Int32} {off : Int} {tgt : Nat} (hd : decode M.2.1 pc = .ok (.ifCond .ge off, 3)) (ht : (pc : Int) + off = (tgt : Int)) (k1 : zz_Sim sh l G M d val mem f1 tgt lv st μ) (k2 : zz_Sim sh l G M d val mem f2 (pc + 3) lv st μ) : zz_Sim sh l G M d val mem (if 0 ≤ x then f1 else f2) pc lv (.int x :: st) μ := by
  intro q hq p e s m args below meth c C H locs ls hP hS hl
  refine lv_if_ge C.1 C.2.1 hd ht (fun h => ?_) (fun h => ?_)
  · rw [if_pos h] at hq; exact k1 q hq p e s m args below meth c C H locs ls hP hS hl
  · rw [if_neg h] at hq; exact k2 q hq p e s m args below meth c C H locs ls hP hS hl
theorem zs_icmp_gt {x y : Int32} {off : Int} {tgt : Nat} (hd : decode M.2.1 pc = .ok (.if_icmp .gt off, 3)) (ht : (pc : Int) + off = (tgt : Int)) (k1 : zz_Sim sh l G M d val mem f1 tgt lv st μ) (k2 : zz_Sim sh l G M d val mem f2 (pc + 3) lv st μ) : zz_Sim sh l G M d val mem (if y < x then f1 else f2) pc lv (.int y :: .int x :: st) μ := by
  intro q hq p e s m args below meth c C H locs ls hP hS hl
  refine lv_icmp_gt C.1 C.2.1 hd ht (fun h => ?_) (fun h => ?_)
  · rw [if_pos h] at hq; exact k1 q hq p e s m args below meth c C H locs ls hP hS hl
  · rw [if_neg h] at hq; exact k2 q hq p e s m args below meth c C H locs ls hP hS hl
theorem zs_if_gt {x : Int32} {off : Int} {tgt : Nat} (hd : decode M.2.1 pc = .ok (.ifCond .gt off, 3)) (ht : (pc : Int) + off = (tgt : Int)) (k1 : zz_Sim sh l G M d val mem f1 tgt lv st μ) (k2 : zz_Sim sh l G M d val mem f2 (pc + 3) lv st μ) : zz_Sim sh l G M d val mem (if 0 < x then f1 else f2) pc lv (.int x :: st) μ := by
  intro q hq p e s m args below meth c C H locs ls hP hS hl
  refine lv_if_gt C.1 C.2.1 hd ht (fun h => ?_) (fun h => ?_)
  · rw [if_pos h] at hq; exact k1 q hq p e s m args below meth c C H locs ls hP hS hl
  · rw [if_neg h] at hq; exact k2 q hq p e s m args below meth c C H locs ls hP hS hl
theorem zs_icmp_le {x y : Int32} {off : Int} {tgt : Nat} (hd : decode M.2.1 pc = .ok (.if_icmp .le off, 3)) (ht : (pc : Int) + off = (tgt : Int)) (k1 : zz_Sim sh l G M d val mem f1 tgt lv st μ) (k2 : zz_Sim sh l G M d val mem f2 (pc + 3) lv st μ) : zz_Sim sh l G M d val mem (if x ≤ y then f1 else f2) pc lv (.int y :: .int x :: st) μ := by
  intro q hq p e s m args below meth c C H locs ls hP hS hl
  refine lv_icmp_le C.1 C.2.1 hd ht (fun h => ?_) (fun h => ?_)
  · rw [if_pos h] at hq; exact k1 q hq p e s m args below meth c C H locs ls hP hS hl
  · rw [if_neg h] at hq; exact k2 q hq p e s m args below meth c C H locs ls hP hS hl
theorem zs_if_le {x : Int32} {off : Int} {tgt : Nat} (hd : decode M.2.1 pc = .ok (.ifCond .le off, 3)) (ht : (pc : Int) + off = (tgt : Int)) (k1 : zz_Sim sh l G M d val mem f1 tgt lv st μ) (k2 : zz_Sim sh l G M d val mem f2 (pc + 3) lv st μ) : zz_Sim sh l G M d val mem (if x ≤ 0 then f1 else f2) pc lv (.int x :: st) μ := by
  intro q hq p e s m args below meth c C H locs ls hP hS hl
  refine lv_if_le C.1 C.2.1 hd ht (fun h => ?_) (fun h => ?_)
  · rw [if_pos h] at hq; exact k1 q hq p e s m args below meth c C H locs ls hP hS hl
  · rw [if_neg h] at hq; exact k2 q hq p e s m args below meth c C H locs ls hP hS hl
theorem lgc_lt (x y : Int64) : (lg_cmp x y < 0) ↔ x < y := by
  unfold lg_cmp
  by_cases h1 : x > y
  · rw [if_pos h1]; constructor
    · intro h; exact absurd h (by decide)
    · intro h; exact absurd h (by have := Int64.lt_iff_toInt_lt.mp h1; intro h2; have := Int64.lt_iff_toInt_lt.mp h2; omega)
  · rw [if_neg h1]
    by_cases h2 : x = y
    · rw [if_pos h2]; subst h2; constructor
      · intro h; exact absurd h (by decide)
      · intro h; exact absurd h h1
    · rw [if_neg h2]; constructor
      · intro _
        have h3 : ¬ y.toInt < x.toInt := fun q => h1 (Int64.lt_iff_toInt_lt.mpr q)
        have h4 : ¬ x.toInt = y.toInt := fun q => h2 (Int64.toInt_inj.mp q)
        exact Int64.lt_iff_toInt_lt.mpr (by omega)
      · intro _; decide
theorem lgc_gt (x y : Int64) : (0 < lg_cmp x y) ↔ y < x := by
  unfold lg_cmp
  by_cases h1 : x > y
  · rw [if_pos h1]; exact ⟨fun _ => h1, fun _ => by decide⟩
  · rw [if_neg h1]
    by_cases h2 : x = y
    · rw [if_pos h2]; exact ⟨fun h => absurd h (by decide), fun h => absurd h h1⟩
    · rw [if_neg h2]; exact ⟨fun h => absurd h (by decide), fun h => absurd h h1⟩
theorem lgc_eq (x y : Int64) : (lg_cmp x y = 0) ↔ x = y := by
  unfold lg_cmp
  by_cases h1 : x > y
  · rw [if_pos h1]; exact ⟨fun h => absurd h (by decide), fun h => absurd h1 (by subst h; intro h2; have := Int64.lt_iff_toInt_lt.mp h2; omega)⟩
  · rw [if_neg h1]
    by_cases h2 : x = y
    · rw [if_pos h2]; exact ⟨fun _ => h2, fun _ => rfl⟩
    · rw [if_neg h2]; exact ⟨fun h => absurd h (by decide), fun h => absurd h h2⟩
theorem lgc_le (x y : Int64) : (lg_cmp x y ≤ 0) ↔ x ≤ y := by
  have h1 := lgc_gt x y
  constructor
  · intro h
    have h3 : ¬ y < x := fun q => by have h2 := Int32.lt_iff_toInt_lt.mp (h1.mpr q); have h4 := Int32.le_iff_toInt_le.mp h; omega
    have h5 : ¬ y.toInt < x.toInt := fun q => h3 (Int64.lt_iff_toInt_lt.mpr q)
    exact Int64.le_iff_toInt_le.mpr (by omega)
  · intro h
    have h3 : ¬ 0 < lg_cmp x y := fun q => by have h2 := Int64.lt_iff_toInt_lt.mp (h1.mp q); have h4 := Int64.le_iff_toInt_le.mp h; omega
    have h5 : ¬ (0 : Int32).toInt < (lg_cmp x y).toInt := fun q => h3 (Int32.lt_iff_toInt_lt.mpr q)
    exact Int32.le_iff_toInt_le.mpr (by omega)
theorem lgc_ge (x y : Int64) : (0 ≤ lg_cmp x y) ↔ y ≤ x := by
  have h1 := lgc_lt x y
  constructor
  · intro h
    have h3 : ¬ x < y := fun q => by have h2 := Int32.lt_iff_toInt_lt.mp (h1.mpr q); have h4 := Int32.le_iff_toInt_le.mp h; omega
    have h5 : ¬ x.toInt < y.toInt := fun q => h3 (Int64.lt_iff_toInt_lt.mpr q)
    exact Int64.le_iff_toInt_le.mpr (by omega)
  · intro h
    have h3 : ¬ lg_cmp x y < 0 := fun q => by have h2 := Int64.lt_iff_toInt_lt.mp (h1.mp q); have h4 := Int64.le_iff_toInt_le.mp h; omega
    have h5 : ¬ (lg_cmp x y).toInt < (0 : Int32).toInt := fun q => h3 (Int32.lt_iff_toInt_lt.mpr q)
    exact Int32.le_iff_toInt_le.mpr (by omega)
theorem zs_lcmp_eq {x y : Int64} {off : Int} {tgt : Nat} (hd0 : decode M.2.1 pc = .ok (.lcmp, 1)) (hd : decode M.2.1 (pc + 1) = .ok (.ifCond .eq off, 3)) (ht : ((pc + 1 : Nat) : Int) + off = (tgt : Int)) (k1 : zz_Sim sh l G M d val mem f1 tgt lv st μ) (k2 : zz_Sim sh l G M d val mem f2 (pc + 4) lv st μ) : zz_Sim sh l G M d val mem (if x = y then f1 else f2) pc lv (.long y :: .long x :: st) μ := by
  intro q hq p e s m args below meth c C H locs ls hP hS hl
  refine W.lcmp C.1 C.2.1 hd0 (lv_if_eq C.1 C.2.1 hd ht (fun h => ?_) (fun h => ?_))
  · rw [if_pos ((lgc_eq x y).mp h)] at hq; exact k1 q hq p e s m args below meth c C H locs ls hP hS hl
  · rw [if_neg (fun z => h ((lgc_eq x y).mpr z))] at hq; exact k2 q hq p e s m args below meth c C H locs ls hP hS hl
theorem zs_lcmp_ne {x y : Int64} {off : Int} {tgt : Nat} (hd0 : decode M.2.1 pc = .ok (.lcmp, 1)) (hd : decode M.2.1 (pc + 1) = .ok (.ifCond .ne off, 3)) (ht : ((pc + 1 : Nat) : Int) + off = (tgt : Int)) (k1 : zz_Sim sh l G M d val mem f2 tgt lv st μ) (k2 : zz_Sim sh l G M d val mem f1 (pc + 4) lv st μ) : zz_Sim sh l G M d val mem (if x = y then f1 else f2) pc lv (.long y :: .long x :: st) μ := by
  intro q hq p e s m args below meth c C H locs ls hP hS hl
  refine W.lcmp C.1 C.2.1 hd0 (lv_if_ne C.1 C.2.1 hd ht (fun h => ?_) (fun h => ?_))
  · rw [if_neg (fun z => h ((lgc_eq x y).mpr z))] at hq; exact k1 q hq p e s m args below meth c C H locs ls hP hS hl
  · rw [if_pos ((lgc_eq x y).mp h)] at hq; exact k2 q hq p e s m args below meth c C H locs ls hP hS hl
theorem zs_lcmp_lt {x y : Int64} {off : Int} {tgt : Nat} (hd0 : decode M.2.1 pc = .ok (.lcmp, 1)) (hd : decode M.2.1 (pc + 1) = .ok (.ifCond .lt off, 3)) (ht : ((pc + 1 : Nat) : Int) + off = (tgt : Int)) (k1 : zz_Sim sh l G M d val mem f1 tgt lv st μ) (k2 : zz_Sim sh l G M d val mem f2 (pc + 4) lv st μ) : zz_Sim sh l G M d val mem (if x < y then f1 else f2) pc lv (.long y :: .long x :: st) μ := by
  intro q hq p e s m args below meth c C H locs ls hP hS hl
  refine W.lcmp C.1 C.2.1 hd0 (lv_if_lt C.1 C.2.1 hd ht (fun h => ?_) (fun h => ?_))
  · rw [if_pos ((lgc_lt x y).mp h)] at hq; exact k1 q hq p e s m args below meth c C H locs ls hP hS hl
  · rw [if_neg (fun z => h ((lgc_lt x y).mpr z))] at hq; exact k2 q hq p e s m args below meth c C H locs ls hP hS hl
theorem zs_lcmp_ge {x y : Int64} {off : Int} {tgt : Nat} (hd0 : decode M.2.1 pc = .ok (.lcmp, 1)) (hd : decode M.2.1 (pc + 1) = .ok (.ifCond .ge off, 3)) (ht : ((pc + 1 : Nat) : Int) + off = (tgt : Int)) (k1 : zz_Sim sh l G M d val mem f1 tgt lv st μ) (k2 : zz_Sim sh l G M d val mem f2 (pc + 4) lv st μ) : zz_Sim sh l G M d val mem (if y ≤ x then f1 else f2) pc lv (.long y :: .long x :: st) μ := by
  intro q hq p e s m args below meth c C H locs ls hP hS hl
  refine W.lcmp C.1 C.2.1 hd0 (lv_if_ge C.1 C.2.1 hd ht (fun h => ?_) (fun h => ?_))
  · rw [if_pos ((lgc_ge x y).mp h)] at hq; exact k1 q hq p e s m args below meth c C H locs ls hP hS hl
  · rw [if_neg (fun z => h ((lgc_ge x y).mpr z))] at hq; exact k2 q hq p e s m args below meth c C H locs ls hP hS hl
theorem zs_lcmp_gt {x y : Int64} {off : Int} {tgt : Nat} (hd0 : decode M.2.1 pc = .ok (.lcmp, 1)) (hd : decode M.2.1 (pc + 1) = .ok (.ifCond .gt off, 3)) (ht : ((pc + 1 : Nat) : Int) + off = (tgt : Int)) (k1 : zz_Sim sh l G M d val mem f1 tgt lv st μ) (k2 : zz_Sim sh l G M d val mem f2 (pc + 4) lv st μ) : zz_Sim sh l G M d val mem (if y < x then f1 else f2) pc lv (.long y :: .long x :: st) μ := by
  intro q hq p e s m args below meth c C H locs ls hP hS hl
  refine W.lcmp C.1 C.2.1 hd0 (lv_if_gt C.1 C.2.1 hd ht (fun h => ?_) (fun h => ?_))
  · rw [if_pos ((lgc_gt x y).mp h)] at hq; exact k1 q hq p e s m args below meth c C H locs ls hP hS hl
  · rw [if_neg (fun z => h ((lgc_gt x y).mpr z))] at hq; exact k2 q hq p e s m args below meth c C H locs ls hP hS hl
theorem zs_lcmp_le {x y : Int64} {off : Int} {tgt : Nat} (hd0 : decode M.2.1 pc = .ok (.lcmp, 1)) (hd : decode M.2.1 (pc + 1) = .ok (.ifCond .le off, 3)) (ht : ((pc + 1 : Nat) : Int) + off = (tgt : Int)) (k1 : zz_Sim sh l G M d val mem f1 tgt lv st μ) (k2 : zz_Sim sh l G M d val mem f2 (pc + 4) lv st μ) : zz_Sim sh l G M d val mem (if x ≤ y then f1 else f2) pc lv (.long y :: .long x :: st) μ := by
  intro q hq p e s m args below meth c C H locs ls hP hS hl
  refine W.lcmp C.1 C.2.1 hd0 (lv_if_le C.1 C.2.1 hd ht (fun h => ?_) (fun h => ?_))
  · rw [if_pos ((lgc_le x y).mp h)] at hq; exact k1 q hq p e s m args below meth c C H locs ls hP hS hl
  · rw [if_neg (fun z => h ((lgc_le x y).mpr z))] at hq; exact k2 q hq p e s m args below meth c C H locs ls hP hS hl
theorem zs_goto {off : Int} {tgt : Nat} (hd : decode M.2.1 pc = .ok (.goto off, 3)) (ht : (pc : Int) + off = (tgt : Int)) (k : zz_Sim sh l G M d val mem f tgt lv st μ) : zz_Sim sh l G M d val mem f pc lv st μ :=
  fun q hq p e s m args below meth c C H locs ls hP hS hl => lv_goto C.1 C.2.1 hd ht (k q hq p e s m args below meth c C H locs ls hP hS hl)
theorem zs_tswI {x v : Int32} (hx : x = v) {dflt lo hi : Int} {offs : Array Int} {len : Nat} {off : Int} {tgt : Nat} (hd : decode M.2.1 pc = .ok (.tableswitch dflt lo hi offs, len)) (h1 : ¬ v.toInt < lo) (h2 : ¬ hi < v.toInt) (ho : offs[(v.toInt - lo).toNat]? = some off) (ht : (pc : Int) + off = (tgt : Int)) (k : zz_Sim sh l G M d val mem f tgt lv st μ) : zz_Sim sh l G M d val mem f pc lv (.int x :: st) μ := by
  subst hx
  exact fun q hq p e s m args below meth c C H locs ls hP hS hl => lv_tableIn C.1 C.2.1 hd h1 h2 ho ht (k q hq p e s m args below meth c C H locs ls hP hS hl)
theorem zs_tswO {x : Int32} {dflt lo hi : Int} {offs : Array Int} {len : Nat} {tgt : Nat} (hd : decode M.2.1 pc = .ok (.tableswitch dflt lo hi offs, len)) (h : x.toInt < lo ∨ hi < x.toInt) (ht : (pc : Int) + dflt = (tgt : Int)) (k : zz_Sim sh l G M d val mem f tgt lv st μ) : zz_Sim sh l G M d val mem f pc lv (.int x :: st) μ :=
  fun q hq p e s m args below meth c C H locs ls hP hS hl => lv_tableOut C.1 C.2.1 hd h ht (k q hq p e s m args below meth c C H locs ls hP hS hl)
theorem zs_lsw {x : Int32} {dflt : Int} {ps : Array (Int × Int)} {len : Nat} {off : Int} {tgt : Nat} (hd : decode M.2.1 pc = .ok (.lookupswitch dflt ps, len)) (hp : (ps.toList.zip (ps.toList.drop 1)).all (fun (a, next) => a.1 < next.1) = true) (ho : Op.lookupswitch.offset ps.toList dflt x.toInt = off) (ht : (pc : Int) + off = (tgt : Int)) (k : zz_Sim sh l G M d val mem f tgt lv st μ) : zz_Sim sh l G M d val mem f pc lv (.int x :: st) μ :=
  fun q hq p e s m args below meth c C H locs ls hP hS hl => lv_lookup C.1 C.2.1 hd hp ho ht (k q hq p e s m args below meth c C H locs ls hP hS hl)
theorem zs_iret {q : τ} {v : Int32} (hd : decode M.2.1 pc = .ok (.ireturn, 1)) (hr : M.2.2.2 = some .int) (hv : val q = some (.int v)) (hm : mem q = μ) : zz_Sim sh l G M d val mem (some q) pc lv [.int v] μ := by
  intro q' hq p e s m args below meth c C H locs ls hP hS hl
  obtain rfl := Option.some.inj hq
  have hlocks : meth.locks = false := C.2.2.2.2.2.2.1
  exact W.iret C.1 C.2.1 (C.2.2.1.trans hr) (fun t ht hW => ⟨by rw [hv], by rw [ht, hm]; exact hP, hS.F ht⟩) hS.2.2 hd hlocks
theorem zs_lret {q : τ} {v : Int64} (hd : decode M.2.1 pc = .ok (.lreturn, 1)) (hr : M.2.2.2 = some .long) (hv : val q = some (.long v)) (hm : mem q = μ) : zz_Sim sh l G M d val mem (some q) pc lv [.long v] μ := by
  intro q' hq p e s m args below meth c C H locs ls hP hS hl
  obtain rfl := Option.some.inj hq
  have hlocks : meth.locks = false := C.2.2.2.2.2.2.1
  exact W.lret C.1 C.2.1 (C.2.2.1.trans hr) (fun t ht hW => ⟨by rw [hv], by rw [ht, hm]; exact hP, hS.F ht⟩) hS.2.2 hd hlocks
theorem zs_zret {q : τ} {v : Int32} {ty : FieldType} (hd : decode M.2.1 pc = .ok (.ireturn, 1)) (hr : M.2.2.2 = some ty) (hn : narrow ty (.int v) = .int v) (hv : val q = some (.int v)) (hm : mem q = μ) : zz_Sim sh l G M d val mem (some q) pc lv [.int v] μ := by
  intro q' hq p e s m args below meth c C H locs ls hP hS hl
  obtain rfl := Option.some.inj hq
  have hlocks : meth.locks = false := C.2.2.2.2.2.2.1
  exact W.zret C.1 C.2.1 (C.2.2.1.trans hr) hn (fun t ht hW => ⟨by rw [hv], by rw [ht, hm]; exact hP, hS.F ht⟩) hS.2.2 hd hlocks
theorem zs_vret {q : τ} (hd : decode M.2.1 pc = .ok (.return_, 1)) (hr : M.2.2.2 = none) (hv : val q = none) (hm : mem q = μ) : zz_Sim sh l G M d val mem (some q) pc lv [] μ := by
  intro q' hq p e s m args below meth c C H locs ls hP hS hl
  obtain rfl := Option.some.inj hq
  have hlocks : meth.locks = false := C.2.2.2.2.2.2.1
  exact W.vret C.1 C.2.1 (C.2.2.1.trans hr) (fun t ht hW => ⟨by rw [hv], by rw [ht, hm]; exact hP, hS.F ht⟩) hS.2.2 hd hlocks
theorem zs_aret {q : τ} {a : Nat} {n : String} (hd : decode M.2.1 pc = .ok (.areturn, 1)) (hr : M.2.2.2 = some (.object n)) (hv : val q = some (.ref a)) (hm : mem q = μ) : zz_Sim sh l G M d val mem (some q) pc lv [.ref a] μ := by
  intro q' hq p e s m args below meth c C H locs ls hP hS hl
  obtain rfl := Option.some.inj hq
  have hlocks : meth.locks = false := C.2.2.2.2.2.2.1
  exact W.aret C.1 C.2.1 (C.2.2.1.trans hr) (Or.inl ⟨n, rfl⟩) (Or.inr ⟨a, rfl⟩) (fun t ht hW => ⟨by rw [hv], by rw [ht, hm]; exact hP, hS.F ht⟩) hS.2.2 hd hlocks
def zz_bo {τ : Type} (v : Int32) (f : Option τ) : Option τ := if v = 0 ∨ v = 1 then f else none
theorem narrow_bo {v : Int32} (h : v = 0 ∨ v = 1) : narrow .boolean (.int v) = .int v := by rcases h with rfl | rfl <;> rfl
theorem zs_bret {q : τ} {v : Int32} (hd : decode M.2.1 pc = .ok (.ireturn, 1)) (hr : M.2.2.2 = some .boolean) (hv : val q = some (.int v)) (hm : mem q = μ) : zz_Sim sh l G M d val mem (zz_bo v (some q)) pc lv [.int v] μ := by
  unfold zz_bo
  by_cases h : v = 0 ∨ v = 1
  · rw [if_pos h]; exact zs_zret hd hr (narrow_bo h) hv hm
  · rw [if_neg h]; exact zs_none
theorem zs_getI {idx ci i : Nat} {ty : FieldType} {fin : Bool} {kk x : Nat} {fs : List (Nat × Nat)} (F : zz_FL M.1.cls idx ci i ty fin) (hd : decode M.2.1 pc = .ok (.getfield idx, 3)) (S0 : zz_SH sh G kk (4, ci, fs)) (hf : fs[i]? = some (0, x)) (k : zz_Sim sh l G M d val mem f (pc + 3) lv (.int (μ.1 kk i) :: st) μ) : zz_Sim sh l G M d val mem f pc lv (.ref (zz_a G kk) :: st) μ := by
  intro q hq p e s m args below meth c C H locs ls hP hS hl
  obtain ⟨hk, hsh⟩ := S0
  obtain ⟨K, T, n, h1, h2, h3, h4, -, -, -⟩ := F
  have hw := C.2.2.2.2.2.1
  refine va_get (D := zz_D G) (Ts := zz_ws M) C.1 C.2.1 hw (fun w h => List.mem_cons_of_mem _ (h4 w h)) C.2.2.2.2.1 C.2.2.2.2.2.2.2.1 hP kk (fs := fs.mapIdx (zz_fld G μ kk)) (by rw [zz_wd_at hk, hsh]; rfl) h1 i h2 (hw _ (List.mem_cons_of_mem _ h3)) (fun _ h9 => h9) (v := .int (μ.1 kk i)) (by rw [List.getElem?_mapIdx, hf]; rfl) hd (k q hq p e s m args below meth c C H locs ls hP hS hl)
theorem zs_getJ {idx ci i : Nat} {ty : FieldType} {fin : Bool} {kk x : Nat} {fs : List (Nat × Nat)} (F : zz_FL M.1.cls idx ci i ty fin) (hd : decode M.2.1 pc = .ok (.getfield idx, 3)) (S0 : zz_SH sh G kk (4, ci, fs)) (hf : fs[i]? = some (1, x)) (k : zz_Sim sh l G M d val mem f (pc + 3) lv (.long (μ.2.1 kk i) :: st) μ) : zz_Sim sh l G M d val mem f pc lv (.ref (zz_a G kk) :: st) μ := by
  intro q hq p e s m args below meth c C H locs ls hP hS hl
  obtain ⟨hk, hsh⟩ := S0
  obtain ⟨K, T, n, h1, h2, h3, h4, -, -, -⟩ := F
  have hw := C.2.2.2.2.2.1
  refine va_get (D := zz_D G) (Ts := zz_ws M) C.1 C.2.1 hw (fun w h => List.mem_cons_of_mem _ (h4 w h)) C.2.2.2.2.1 C.2.2.2.2.2.2.2.1 hP kk (fs := fs.mapIdx (zz_fld G μ kk)) (by rw [zz_wd_at hk, hsh]; rfl) h1 i h2 (hw _ (List.mem_cons_of_mem _ h3)) (fun _ h9 => h9) (v := .long (μ.2.1 kk i)) (by rw [List.getElem?_mapIdx, hf]; rfl) hd (k q hq p e s m args below meth c C H locs ls hP hS hl)
theorem zs_getR {idx ci i : Nat} {ty : FieldType} {fin : Bool} {kk x : Nat} {fs : List (Nat × Nat)} (F : zz_FL M.1.cls idx ci i ty fin) (hd : decode M.2.1 pc = .ok (.getfield idx, 3)) (S0 : zz_SH sh G kk (4, ci, fs)) (hf : fs[i]? = some (2, x)) (k : zz_Sim sh l G M d val mem f (pc + 3) lv (.ref (zz_a G x) :: st) μ) : zz_Sim sh l G M d val mem f pc lv (.ref (zz_a G kk) :: st) μ := by
  intro q hq p e s m args below meth c C H locs ls hP hS hl
  obtain ⟨hk, hsh⟩ := S0
  obtain ⟨K, T, n, h1, h2, h3, h4, -, -, -⟩ := F
  have hw := C.2.2.2.2.2.1
  refine va_get (D := zz_D G) (Ts := zz_ws M) C.1 C.2.1 hw (fun w h => List.mem_cons_of_mem _ (h4 w h)) C.2.2.2.2.1 C.2.2.2.2.2.2.2.1 hP kk (fs := fs.mapIdx (zz_fld G μ kk)) (by rw [zz_wd_at hk, hsh]; rfl) h1 i h2 (hw _ (List.mem_cons_of_mem _ h3)) (fun _ h9 => h9) (v := .ref (zz_a G x)) (by rw [List.getElem?_mapIdx, hf]; rfl) hd (k q hq p e s m args below meth c C H locs ls hP hS hl)
theorem zs_getQ {idx ci i : Nat} {ty : FieldType} {fin : Bool} {kk x : Nat} {fs : List (Nat × Nat)} (F : zz_FL M.1.cls idx ci i ty fin) (hd : decode M.2.1 pc = .ok (.getfield idx, 3)) (S0 : zz_SH sh G kk (4, ci, fs)) (hf : fs[i]? = some (3, x)) (k : zz_Sim sh l G M d val mem f (pc + 3) lv (va_rf ((μ.2.2 kk i).map (zz_a G)) :: st) μ) : zz_Sim sh l G M d val mem f pc lv (.ref (zz_a G kk) :: st) μ := by
  intro q hq p e s m args below meth c C H locs ls hP hS hl
  obtain ⟨hk, hsh⟩ := S0
  obtain ⟨K, T, n, h1, h2, h3, h4, -, -, -⟩ := F
  have hw := C.2.2.2.2.2.1
  refine va_get (D := zz_D G) (Ts := zz_ws M) C.1 C.2.1 hw (fun w h => List.mem_cons_of_mem _ (h4 w h)) C.2.2.2.2.1 C.2.2.2.2.2.2.2.1 hP kk (fs := fs.mapIdx (zz_fld G μ kk)) (by rw [zz_wd_at hk, hsh]; rfl) h1 i h2 (hw _ (List.mem_cons_of_mem _ h3)) (fun _ h9 => h9) (v := va_rf ((μ.2.2 kk i).map (zz_a G))) (by rw [List.getElem?_mapIdx, hf]; rfl) hd (k q hq p e s m args below meth c C H locs ls hP hS hl)
theorem zs_putI {idx ci i : Nat} {ty : FieldType} {kk x : Nat} {fs : List (Nat × Nat)} {v : Int32} {K : zz_Mem → Option τ} (F : zz_FL M.1.cls idx ci i ty false) (hd : decode M.2.1 pc = .ok (.putfield idx, 3)) (S0 : zz_SH sh G kk (4, ci, fs)) (hf : fs[i]? = some (0, x)) (hn : narrow ty (.int v) = .int v ∧ fits ty (.int v) = true) (k : ∀ m1, zz_Sim sh l G M d val mem (K m1) (pc + 3) lv st m1) : zz_Sim sh l G M d val mem (zz_letM (zz_setI μ kk i v) K) pc lv (.int v :: .ref (zz_a G kk) :: st) μ := by
  intro q hq p e s m args below meth c C H locs ls hP hS hl
  obtain ⟨hk, hsh⟩ := S0
  obtain ⟨CC, T, n, h1, h2, h3, h4, ⟨ty0, h5, h5'⟩, h6, h7⟩ := F
  have hw := C.2.2.2.2.2.1
  have hD := zz_wd_D (sh := sh) C.2.2.2.2.2.2.2.2.1 μ
  have hlt : i < fs.length := (List.getElem?_eq_some_iff.mp hf).1
  refine va_put (D := zz_D G) (Ts := zz_ws M) C.1 C.2.1 hw (fun w h => List.mem_cons_of_mem _ (h4 w h)) ty0 h5 h6 C.2.2.2.2.1 C.2.2.2.2.2.2.2.1 hP hD hS kk (fs := fs.mapIdx (zz_fld G μ kk)) (by rw [zz_wd_at hk, hsh]; rfl) h1 i h2 (hw _ (List.mem_cons_of_mem _ h3)) (fun _ h9 => h9) h7 (ty := ty) (v := .int v) (by rw [h5 i h2, h5']) hn.1 hn.2 (by rw [List.length_mapIdx]; exact hlt) hd (fun H1 locs1 hP1 _ hS1 => ?_)
  have e1 : (zz_wd sh G μ).set kk (zz_a G kk, .inr (ci, (fs.mapIdx (zz_fld G μ kk)).set i (.int v))) = zz_wd sh G (zz_setI μ kk i v) := by
    refine zz_wd_set hk ?_ (fun j hj => zz_enc_off _ (va_up_n _ _ hj) rfl rfl)
    rw [hsh]
    show Sum.inr (ci, fs.mapIdx (zz_fld G (zz_setI μ kk i v) kk)) = _
    congr 2
    apply List.ext_getElem?
    intro j
    rw [List.getElem?_mapIdx, List.getElem?_set, List.getElem?_mapIdx]
    by_cases hj : i = j
    · subst hj
      rw [if_pos rfl, if_pos (by rw [List.length_mapIdx]; exact hlt), hf]
      simp [zz_fld, zz_setI, va_up, upd, vp_updL]
    · rw [if_neg hj]
      cases hfj : fs[j]? with
      | none => rfl
      | some f0 =>
        have hj2 : ¬ j = i := fun z => hj z.symm
        simp only [Option.map_some, zz_fld, zz_setI, va_up, upd, vp_updL, hj2, if_true, if_false]
  rw [e1] at hP1
  exact k _ q hq p e s m args below meth c C H1 locs1 ls hP1 hS1 hl
theorem zs_putJ {idx ci i : Nat} {ty : FieldType} {kk x : Nat} {fs : List (Nat × Nat)} {v : Int64} {K : zz_Mem → Option τ} (F : zz_FL M.1.cls idx ci i ty false) (hd : decode M.2.1 pc = .ok (.putfield idx, 3)) (S0 : zz_SH sh G kk (4, ci, fs)) (hf : fs[i]? = some (1, x)) (hn : narrow ty (.long v) = .long v ∧ fits ty (.long v) = true) (k : ∀ m1, zz_Sim sh l G M d val mem (K m1) (pc + 3) lv st m1) : zz_Sim sh l G M d val mem (zz_letM (zz_setJ μ kk i v) K) pc lv (.long v :: .ref (zz_a G kk) :: st) μ := by
  intro q hq p e s m args below meth c C H locs ls hP hS hl
  obtain ⟨hk, hsh⟩ := S0
  obtain ⟨CC, T, n, h1, h2, h3, h4, ⟨ty0, h5, h5'⟩, h6, h7⟩ := F
  have hw := C.2.2.2.2.2.1
  have hD := zz_wd_D (sh := sh) C.2.2.2.2.2.2.2.2.1 μ
  have hlt : i < fs.length := (List.getElem?_eq_some_iff.mp hf).1
  refine va_put (D := zz_D G) (Ts := zz_ws M) C.1 C.2.1 hw (fun w h => List.mem_cons_of_mem _ (h4 w h)) ty0 h5 h6 C.2.2.2.2.1 C.2.2.2.2.2.2.2.1 hP hD hS kk (fs := fs.mapIdx (zz_fld G μ kk)) (by rw [zz_wd_at hk, hsh]; rfl) h1 i h2 (hw _ (List.mem_cons_of_mem _ h3)) (fun _ h9 => h9) h7 (ty := ty) (v := .long v) (by rw [h5 i h2, h5']) hn.1 hn.2 (by rw [List.length_mapIdx]; exact hlt) hd (fun H1 locs1 hP1 _ hS1 => ?_)
  have e1 : (zz_wd sh G μ).set kk (zz_a G kk, .inr (ci, (fs.mapIdx (zz_fld G μ kk)).set i (.long v))) = zz_wd sh G (zz_setJ μ kk i v) := by
    refine zz_wd_set hk ?_ (fun j hj => zz_enc_off _ rfl (va_up_n _ _ hj) rfl)
    rw [hsh]
    show Sum.inr (ci, fs.mapIdx (zz_fld G (zz_setJ μ kk i v) kk)) = _
    congr 2
    apply List.ext_getElem?
    intro j
    rw [List.getElem?_mapIdx, List.getElem?_set, List.getElem?_mapIdx]
    by_cases hj : i = j
    · subst hj
      rw [if_pos rfl, if_pos (by rw [List.length_mapIdx]; exact hlt), hf]
      simp [zz_fld, zz_setJ, va_up, upd, vp_updL]
    · rw [if_neg hj]
      cases hfj : fs[j]? with
      | none => rfl
      | some f0 =>
        have hj2 : ¬ j = i := fun z => hj z.symm
        simp only [Option.map_some, zz_fld, zz_setJ, va_up, upd, vp_updL, hj2, if_true, if_false]
  rw [e1] at hP1
  exact k _ q hq p e s m args below meth c C H1 locs1 ls hP1 hS1 hl
theorem zs_iald {kk n : Nat} {x : List (Nat × Nat)} {i : Int32} (hd : decode M.2.1 pc = .ok (.iaload, 1)) (S0 : zz_SH sh G kk (0, n, x)) (hin : vp_in i n) (k : zz_Sim sh l G M d val mem f (pc + 1) lv (.int (μ.1 kk i.toNatClampNeg) :: st) μ) : zz_Sim sh l G M d val mem f pc lv (.int i :: .ref (zz_a G kk) :: st) μ := by
  obtain ⟨hk, hsh⟩ := S0
  exact fun q hq p e s m args below meth c C H locs ls hP hS hl => va_iald C.1 C.2.1 C.2.2.2.2.2.2.2.1 hP kk 0 (by rw [zz_wd_at hk, hsh]; rfl) rfl hin hd (k q hq p e s m args below meth c C H locs ls hP hS hl)
theorem zs_ialdC {kk n : Nat} {x : List (Nat × Nat)} {i : Int32} {j : Nat} (hd : decode M.2.1 pc = .ok (.iaload, 1)) (S0 : zz_SH sh G kk (0, n, x)) (hin : vp_in i n) (hj : i.toNatClampNeg = j) (k : zz_Sim sh l G M d val mem f (pc + 1) lv (.int (μ.1 kk j) :: st) μ) : zz_Sim sh l G M d val mem f pc lv (.int i :: .ref (zz_a G kk) :: st) μ := by
  subst hj; exact zs_iald hd S0 hin k
theorem zs_ialdG {kk n : Nat} {x : List (Nat × Nat)} {i : Int32} (hd : decode M.2.1 pc = .ok (.iaload, 1)) (S0 : zz_SH sh G kk (0, n, x)) (k : zz_Sim sh l G M d val mem f (pc + 1) lv (.int (μ.1 kk i.toNatClampNeg) :: st) μ) : zz_Sim sh l G M d val mem (zz_ix i n f) pc lv (.int i :: .ref (zz_a G kk) :: st) μ := by
  unfold zz_ix
  by_cases h : i < 0 ∨ n ≤ i.toNatClampNeg
  · rw [if_pos h]; exact zs_none
  · rw [if_neg h]; exact zs_iald hd S0 h k
theorem zs_lald {kk n : Nat} {x : List (Nat × Nat)} {i : Int32} (hd : decode M.2.1 pc = .ok (.laload, 1)) (S0 : zz_SH sh G kk (1, n, x)) (hin : vp_in i n) (k : zz_Sim sh l G M d val mem f (pc + 1) lv (.long (μ.2.1 kk i.toNatClampNeg) :: st) μ) : zz_Sim sh l G M d val mem f pc lv (.int i :: .ref (zz_a G kk) :: st) μ := by
  obtain ⟨hk, hsh⟩ := S0
  exact fun q hq p e s m args below meth c C H locs ls hP hS hl => va_lald C.1 C.2.1 C.2.2.2.2.2.2.2.1 hP kk 1 (by rw [zz_wd_at hk, hsh]; rfl) rfl hin hd (k q hq p e s m args below meth c C H locs ls hP hS hl)
theorem zs_laldC {kk n : Nat} {x : List (Nat × Nat)} {i : Int32} {j : Nat} (hd : decode M.2.1 pc = .ok (.laload, 1)) (S0 : zz_SH sh G kk (1, n, x)) (hin : vp_in i n) (hj : i.toNatClampNeg = j) (k : zz_Sim sh l G M d val mem f (pc + 1) lv (.long (μ.2.1 kk j) :: st) μ) : zz_Sim sh l G M d val mem f pc lv (.int i :: .ref (zz_a G kk) :: st) μ := by
  subst hj; exact zs_lald hd S0 hin k
theorem zs_laldG {kk n : Nat} {x : List (Nat × Nat)} {i : Int32} (hd : decode M.2.1 pc = .ok (.laload, 1)) (S0 : zz_SH sh G kk (1, n, x)) (k : zz_Sim sh l G M d val mem f (pc + 1) lv (.long (μ.2.1 kk i.toNatClampNeg) :: st) μ) : zz_Sim sh l G M d val mem (zz_ix i n f) pc lv (.int i :: .ref (zz_a G kk) :: st) μ := by
  unfold zz_ix
  by_cases h : i < 0 ∨ n ≤ i.toNatClampNeg
  · rw [if_pos h]; exact zs_none
  · rw [if_neg h]; exact zs_lald hd S0 h k
theorem zs_bald {kk n : Nat} {x : List (Nat × Nat)} {i : Int32} (hd : decode M.2.1 pc = .ok (.baload, 1)) (S0 : zz_SH sh G kk (2, n, x)) (hin : vp_in i n) (k : zz_Sim sh l G M d val mem f (pc + 1) lv (.int (μ.1 kk i.toNatClampNeg) :: st) μ) : zz_Sim sh l G M d val mem f pc lv (.int i :: .ref (zz_a G kk) :: st) μ := by
  obtain ⟨hk, hsh⟩ := S0
  exact fun q hq p e s m args below meth c C H locs ls hP hS hl => va_bald C.1 C.2.1 C.2.2.2.2.2.2.2.1 hP kk 2 (by rw [zz_wd_at hk, hsh]; rfl) rfl hin hd (k q hq p e s m args below meth c C H locs ls hP hS hl)
theorem zs_baldC {kk n : Nat} {x : List (Nat × Nat)} {i : Int32} {j : Nat} (hd : decode M.2.1 pc = .ok (.baload, 1)) (S0 : zz_SH sh G kk (2, n, x)) (hin : vp_in i n) (hj : i.toNatClampNeg = j) (k : zz_Sim sh l G M d val mem f (pc + 1) lv (.int (μ.1 kk j) :: st) μ) : zz_Sim sh l G M d val mem f pc lv (.int i :: .ref (zz_a G kk) :: st) μ := by
  subst hj; exact zs_bald hd S0 hin k
theorem zs_baldG {kk n : Nat} {x : List (Nat × Nat)} {i : Int32} (hd : decode M.2.1 pc = .ok (.baload, 1)) (S0 : zz_SH sh G kk (2, n, x)) (k : zz_Sim sh l G M d val mem f (pc + 1) lv (.int (μ.1 kk i.toNatClampNeg) :: st) μ) : zz_Sim sh l G M d val mem (zz_ix i n f) pc lv (.int i :: .ref (zz_a G kk) :: st) μ := by
  unfold zz_ix
  by_cases h : i < 0 ∨ n ≤ i.toNatClampNeg
  · rw [if_pos h]; exact zs_none
  · rw [if_neg h]; exact zs_bald hd S0 h k
theorem zs_zald {kk n : Nat} {x : List (Nat × Nat)} {i : Int32} (hd : decode M.2.1 pc = .ok (.baload, 1)) (S0 : zz_SH sh G kk (3, n, x)) (hin : vp_in i n) (k : zz_Sim sh l G M d val mem f (pc + 1) lv (.int (μ.1 kk i.toNatClampNeg) :: st) μ) : zz_Sim sh l G M d val mem f pc lv (.int i :: .ref (zz_a G kk) :: st) μ := by
  obtain ⟨hk, hsh⟩ := S0
  exact fun q hq p e s m args below meth c C H locs ls hP hS hl => va_zald C.1 C.2.1 C.2.2.2.2.2.2.2.1 hP kk 3 (by rw [zz_wd_at hk, hsh]; rfl) rfl hin hd (k q hq p e s m args below meth c C H locs ls hP hS hl)
theorem zs_zaldC {kk n : Nat} {x : List (Nat × Nat)} {i : Int32} {j : Nat} (hd : decode M.2.1 pc = .ok (.baload, 1)) (S0 : zz_SH sh G kk (3, n, x)) (hin : vp_in i n) (hj : i.toNatClampNeg = j) (k : zz_Sim sh l G M d val mem f (pc + 1) lv (.int (μ.1 kk j) :: st) μ) : zz_Sim sh l G M d val mem f pc lv (.int i :: .ref (zz_a G kk) :: st) μ := by
  subst hj; exact zs_zald hd S0 hin k
theorem zs_zaldG {kk n : Nat} {x : List (Nat × Nat)} {i : Int32} (hd : decode M.2.1 pc = .ok (.baload, 1)) (S0 : zz_SH sh G kk (3, n, x)) (k : zz_Sim sh l G M d val mem f (pc + 1) lv (.int (μ.1 kk i.toNatClampNeg) :: st) μ) : zz_Sim sh l G M d val mem (zz_ix i n f) pc lv (.int i :: .ref (zz_a G kk) :: st) μ := by
  unfold zz_ix
  by_cases h : i < 0 ∨ n ≤ i.toNatClampNeg
  · rw [if_pos h]; exact zs_none
  · rw [if_neg h]; exact zs_zald hd S0 h k
theorem zs_iast {kk n : Nat} {x : List (Nat × Nat)} {i : Int32} {v : Int32} {K : zz_Mem → Option τ} (hd : decode M.2.1 pc = .ok (.iastore, 1)) (S0 : zz_SH sh G kk (0, n, x)) (hin : vp_in i n) (k : ∀ m1, zz_Sim sh l G M d val mem (K m1) (pc + 1) lv st m1) : zz_Sim sh l G M d val mem (zz_letM (zz_setI μ kk i.toNatClampNeg (v)) K) pc lv (.int v :: .int i :: .ref (zz_a G kk) :: st) μ := by
  obtain ⟨hk, hsh⟩ := S0
  intro q hq p e s m args below meth c C H locs ls hP hS hl
  have hD := zz_wd_D (sh := sh) C.2.2.2.2.2.2.2.2.1 μ
  refine va_iast C.1 C.2.1 C.2.2.2.2.2.2.2.1 hP hD hS kk 0 (by rw [zz_wd_at hk, hsh]; rfl) rfl hin hd (fun H1 locs1 hP1 _ hS1 => ?_)
  rw [zz_wd_set (μ := μ) (μ' := zz_setI μ kk i.toNatClampNeg (v)) hk (by rw [hsh]; simp only [zz_encS, zz_setI, va_up_s]) (fun j hj => zz_enc_off _ (va_up_n _ _ hj) rfl rfl)] at hP1
  exact k _ q hq p e s m args below meth c C H1 locs1 ls hP1 hS1 hl
theorem zs_iastC {kk n : Nat} {x : List (Nat × Nat)} {i : Int32} {j : Nat} {v : Int32} {K : zz_Mem → Option τ} (hd : decode M.2.1 pc = .ok (.iastore, 1)) (S0 : zz_SH sh G kk (0, n, x)) (hin : vp_in i n) (hj : i.toNatClampNeg = j) (k : ∀ m1, zz_Sim sh l G M d val mem (K m1) (pc + 1) lv st m1) : zz_Sim sh l G M d val mem (zz_letM (zz_setI μ kk j (v)) K) pc lv (.int v :: .int i :: .ref (zz_a G kk) :: st) μ := by
  subst hj; exact zs_iast hd S0 hin k
theorem zs_iastG {kk n : Nat} {x : List (Nat × Nat)} {i : Int32} {v : Int32} {K : zz_Mem → Option τ} (hd : decode M.2.1 pc = .ok (.iastore, 1)) (S0 : zz_SH sh G kk (0, n, x)) (k : ∀ m1, zz_Sim sh l G M d val mem (K m1) (pc + 1) lv st m1) : zz_Sim sh l G M d val mem (zz_ix i n (zz_letM (zz_setI μ kk i.toNatClampNeg (v)) K)) pc lv (.int v :: .int i :: .ref (zz_a G kk) :: st) μ := by
  unfold zz_ix
  by_cases h : i < 0 ∨ n ≤ i.toNatClampNeg
  · rw [if_pos h]; exact zs_none
  · rw [if_neg h]; exact zs_iast hd S0 h k
theorem zs_last {kk n : Nat} {x : List (Nat × Nat)} {i : Int32} {v : Int64} {K : zz_Mem → Option τ} (hd : decode M.2.1 pc = .ok (.lastore, 1)) (S0 : zz_SH sh G kk (1, n, x)) (hin : vp_in i n) (k : ∀ m1, zz_Sim sh l G M d val mem (K m1) (pc + 1) lv st m1) : zz_Sim sh l G M d val mem (zz_letM (zz_setJ μ kk i.toNatClampNeg (v)) K) pc lv (.long v :: .int i :: .ref (zz_a G kk) :: st) μ := by
  obtain ⟨hk, hsh⟩ := S0
  intro q hq p e s m args below meth c C H locs ls hP hS hl
  have hD := zz_wd_D (sh := sh) C.2.2.2.2.2.2.2.2.1 μ
  refine va_last C.1 C.2.1 C.2.2.2.2.2.2.2.1 hP hD hS kk 1 (by rw [zz_wd_at hk, hsh]; rfl) rfl hin hd (fun H1 locs1 hP1 _ hS1 => ?_)
  rw [zz_wd_set (μ := μ) (μ' := zz_setJ μ kk i.toNatClampNeg (v)) hk (by rw [hsh]; simp only [zz_encS, zz_setJ, va_up_s]) (fun j hj => zz_enc_off _ rfl (va_up_n _ _ hj) rfl)] at hP1
  exact k _ q hq p e s m args below meth c C H1 locs1 ls hP1 hS1 hl
theorem zs_lastC {kk n : Nat} {x : List (Nat × Nat)} {i : Int32} {j : Nat} {v : Int64} {K : zz_Mem → Option τ} (hd : decode M.2.1 pc = .ok (.lastore, 1)) (S0 : zz_SH sh G kk (1, n, x)) (hin : vp_in i n) (hj : i.toNatClampNeg = j) (k : ∀ m1, zz_Sim sh l G M d val mem (K m1) (pc + 1) lv st m1) : zz_Sim sh l G M d val mem (zz_letM (zz_setJ μ kk j (v)) K) pc lv (.long v :: .int i :: .ref (zz_a G kk) :: st) μ := by
  subst hj; exact zs_last hd S0 hin k
theorem zs_lastG {kk n : Nat} {x : List (Nat × Nat)} {i : Int32} {v : Int64} {K : zz_Mem → Option τ} (hd : decode M.2.1 pc = .ok (.lastore, 1)) (S0 : zz_SH sh G kk (1, n, x)) (k : ∀ m1, zz_Sim sh l G M d val mem (K m1) (pc + 1) lv st m1) : zz_Sim sh l G M d val mem (zz_ix i n (zz_letM (zz_setJ μ kk i.toNatClampNeg (v)) K)) pc lv (.long v :: .int i :: .ref (zz_a G kk) :: st) μ := by
  unfold zz_ix
  by_cases h : i < 0 ∨ n ≤ i.toNatClampNeg
  · rw [if_pos h]; exact zs_none
  · rw [if_neg h]; exact zs_last hd S0 h k
theorem zs_bast {kk n : Nat} {x : List (Nat × Nat)} {i : Int32} {v : Int32} {K : zz_Mem → Option τ} (hd : decode M.2.1 pc = .ok (.bastore, 1)) (S0 : zz_SH sh G kk (2, n, x)) (hin : vp_in i n) (k : ∀ m1, zz_Sim sh l G M d val mem (K m1) (pc + 1) lv st m1) : zz_Sim sh l G M d val mem (zz_letM (zz_setI μ kk i.toNatClampNeg (vp_nar .byte v)) K) pc lv (.int v :: .int i :: .ref (zz_a G kk) :: st) μ := by
  obtain ⟨hk, hsh⟩ := S0
  intro q hq p e s m args below meth c C H locs ls hP hS hl
  have hD := zz_wd_D (sh := sh) C.2.2.2.2.2.2.2.2.1 μ
  refine va_bast C.1 C.2.1 C.2.2.2.2.2.2.2.1 hP hD hS kk 2 (by rw [zz_wd_at hk, hsh]; rfl) rfl hin hd (fun H1 locs1 hP1 _ hS1 => ?_)
  rw [zz_wd_set (μ := μ) (μ' := zz_setI μ kk i.toNatClampNeg (vp_nar .byte v)) hk (by rw [hsh]; simp only [zz_encS, zz_setI, va_up_s]) (fun j hj => zz_enc_off _ (va_up_n _ _ hj) rfl rfl)] at hP1
  exact k _ q hq p e s m args below meth c C H1 locs1 ls hP1 hS1 hl
theorem zs_bastC {kk n : Nat} {x : List (Nat × Nat)} {i : Int32} {j : Nat} {v : Int32} {K : zz_Mem → Option τ} (hd : decode M.2.1 pc = .ok (.bastore, 1)) (S0 : zz_SH sh G kk (2, n, x)) (hin : vp_in i n) (hj : i.toNatClampNeg = j) (k : ∀ m1, zz_Sim sh l G M d val mem (K m1) (pc + 1) lv st m1) : zz_Sim sh l G M d val mem (zz_letM (zz_setI μ kk j (vp_nar .byte v)) K) pc lv (.int v :: .int i :: .ref (zz_a G kk) :: st) μ := by
  subst hj; exact zs_bast hd S0 hin k
theorem zs_bastG {kk n : Nat} {x : List (Nat × Nat)} {i : Int32} {v : Int32} {K : zz_Mem → Option τ} (hd : decode M.2.1 pc = .ok (.bastore, 1)) (S0 : zz_SH sh G kk (2, n, x)) (k : ∀ m1, zz_Sim sh l G M d val mem (K m1) (pc + 1) lv st m1) : zz_Sim sh l G M d val mem (zz_ix i n (zz_letM (zz_setI μ kk i.toNatClampNeg (vp_nar .byte v)) K)) pc lv (.int v :: .int i :: .ref (zz_a G kk) :: st) μ := by
  unfold zz_ix
  by_cases h : i < 0 ∨ n ≤ i.toNatClampNeg
  · rw [if_pos h]; exact zs_none
  · rw [if_neg h]; exact zs_bast hd S0 h k
theorem zs_zast {kk n : Nat} {x : List (Nat × Nat)} {i : Int32} {v : Int32} {K : zz_Mem → Option τ} (hd : decode M.2.1 pc = .ok (.bastore, 1)) (S0 : zz_SH sh G kk (3, n, x)) (hin : vp_in i n) (k : ∀ m1, zz_Sim sh l G M d val mem (K m1) (pc + 1) lv st m1) : zz_Sim sh l G M d val mem (zz_letM (zz_setI μ kk i.toNatClampNeg (vp_nar .boolean v)) K) pc lv (.int v :: .int i :: .ref (zz_a G kk) :: st) μ := by
  obtain ⟨hk, hsh⟩ := S0
  intro q hq p e s m args below meth c C H locs ls hP hS hl
  have hD := zz_wd_D (sh := sh) C.2.2.2.2.2.2.2.2.1 μ
  refine va_zast C.1 C.2.1 C.2.2.2.2.2.2.2.1 hP hD hS kk 3 (by rw [zz_wd_at hk, hsh]; rfl) rfl hin hd (fun H1 locs1 hP1 _ hS1 => ?_)
  rw [zz_wd_set (μ := μ) (μ' := zz_setI μ kk i.toNatClampNeg (vp_nar .boolean v)) hk (by rw [hsh]; simp only [zz_encS, zz_setI, va_up_s]) (fun j hj => zz_enc_off _ (va_up_n _ _ hj) rfl rfl)] at hP1
  exact k _ q hq p e s m args below meth c C H1 locs1 ls hP1 hS1 hl
theorem zs_zastC {kk n : Nat} {x : List (Nat × Nat)} {i : Int32} {j : Nat} {v : Int32} {K : zz_Mem → Option τ} (hd : decode M.2.1 pc = .ok (.bastore, 1)) (S0 : zz_SH sh G kk (3, n, x)) (hin : vp_in i n) (hj : i.toNatClampNeg = j) (k : ∀ m1, zz_Sim sh l G M d val mem (K m1) (pc + 1) lv st m1) : zz_Sim sh l G M d val mem (zz_letM (zz_setI μ kk j (vp_nar .boolean v)) K) pc lv (.int v :: .int i :: .ref (zz_a G kk) :: st) μ := by
  subst hj; exact zs_zast hd S0 hin k
theorem zs_zastG {kk n : Nat} {x : List (Nat × Nat)} {i : Int32} {v : Int32} {K : zz_Mem → Option τ} (hd : decode M.2.1 pc = .ok (.bastore, 1)) (S0 : zz_SH sh G kk (3, n, x)) (k : ∀ m1, zz_Sim sh l G M d val mem (K m1) (pc + 1) lv st m1) : zz_Sim sh l G M d val mem (zz_ix i n (zz_letM (zz_setI μ kk i.toNatClampNeg (vp_nar .boolean v)) K)) pc lv (.int v :: .int i :: .ref (zz_a G kk) :: st) μ := by
  unfold zz_ix
  by_cases h : i < 0 ∨ n ≤ i.toNatClampNeg
  · rw [if_pos h]; exact zs_none
  · rw [if_neg h]; exact zs_zast hd S0 h k
theorem zs_alen0 {kk n : Nat} {x : List (Nat × Nat)} {v : Int32} (hd : decode M.2.1 pc = .ok (.arraylength, 1)) (S0 : zz_SH sh G kk (0, n, x)) (hv : Int32.ofNat n = v) (k : zz_Sim sh l G M d val mem f (pc + 1) lv (.int v :: st) μ) : zz_Sim sh l G M d val mem f pc lv (.ref (zz_a G kk) :: st) μ := by
  obtain ⟨hk, hsh⟩ := S0
  exact fun q hq p e s m args below meth c C H locs ls hP hS hl => va_alen C.1 C.2.1 C.2.2.2.2.2.2.2.1 hP kk 0 (by rw [zz_wd_at hk, hsh]; rfl) rfl hv hd (k q hq p e s m args below meth c C H locs ls hP hS hl)
theorem zs_alen1 {kk n : Nat} {x : List (Nat × Nat)} {v : Int32} (hd : decode M.2.1 pc = .ok (.arraylength, 1)) (S0 : zz_SH sh G kk (1, n, x)) (hv : Int32.ofNat n = v) (k : zz_Sim sh l G M d val mem f (pc + 1) lv (.int v :: st) μ) : zz_Sim sh l G M d val mem f pc lv (.ref (zz_a G kk) :: st) μ := by
  obtain ⟨hk, hsh⟩ := S0
  exact fun q hq p e s m args below meth c C H locs ls hP hS hl => va_alen C.1 C.2.1 C.2.2.2.2.2.2.2.1 hP kk 1 (by rw [zz_wd_at hk, hsh]; rfl) rfl hv hd (k q hq p e s m args below meth c C H locs ls hP hS hl)
theorem zs_alen2 {kk n : Nat} {x : List (Nat × Nat)} {v : Int32} (hd : decode M.2.1 pc = .ok (.arraylength, 1)) (S0 : zz_SH sh G kk (2, n, x)) (hv : Int32.ofNat n = v) (k : zz_Sim sh l G M d val mem f (pc + 1) lv (.int v :: st) μ) : zz_Sim sh l G M d val mem f pc lv (.ref (zz_a G kk) :: st) μ := by
  obtain ⟨hk, hsh⟩ := S0
  exact fun q hq p e s m args below meth c C H locs ls hP hS hl => va_alen C.1 C.2.1 C.2.2.2.2.2.2.2.1 hP kk 2 (by rw [zz_wd_at hk, hsh]; rfl) rfl hv hd (k q hq p e s m args below meth c C H locs ls hP hS hl)
theorem zs_alen3 {kk n : Nat} {x : List (Nat × Nat)} {v : Int32} (hd : decode M.2.1 pc = .ok (.arraylength, 1)) (S0 : zz_SH sh G kk (3, n, x)) (hv : Int32.ofNat n = v) (k : zz_Sim sh l G M d val mem f (pc + 1) lv (.int v :: st) μ) : zz_Sim sh l G M d val mem f pc lv (.ref (zz_a G kk) :: st) μ := by
  obtain ⟨hk, hsh⟩ := S0
  exact fun q hq p e s m args below meth c C H locs ls hP hS hl => va_alen C.1 C.2.1 C.2.2.2.2.2.2.2.1 hP kk 3 (by rw [zz_wd_at hk, hsh]; rfl) rfl hv hd (k q hq p e s m args below meth c C H locs ls hP hS hl)
end ZR
