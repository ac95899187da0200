/-! ===== rows: texts, rows of references, copies ===== -/
def zz_fuel : Nat := 5000
def zz_vVr : Unit → Option Value := fun _ => none
def zz_rg {τ : Type} (m : zz_Mem) (k i x : Nat) (f : Option τ) : Option τ := if m.2.2 k i = some x then f else none
def zz_cg {τ : Type} (v : Int32) (f : Option τ) : Option τ := if (v.toUInt32 % 65536).toInt32 = v then f else none
section ZX
variable {sh : Nat → zz_Sh} {l : Launch} {G : zz_G} {M M' : zz_M} {d d' : Nat} {τ : Type} {val : τ → Option Value} {mem : τ → zz_Mem} {f : Option τ} {pc idx n : Nat} {lv : List (Nat × Value)} {st rest As : List Value} {b : Nat} {μ : zz_Mem}
theorem zs_cV_vR {f' : Option Unit} {K : Unit → Option τ} (hcon : zz_Con sh l G M' d' (.ref b :: As) zz_vVr (zz_mC μ) f' μ) (hd : decode M.2.1 pc = .ok (.invokevirtual idx, 3)) (L : zz_LV M.1.cls idx M') (ho : zz_ok M' n) (hr : zz_Rcv sh G b M'.1.cls) (hdd : d' + 1 ≤ d) (hn : As.length = n) (hst : As.reverse ++ .ref b :: rest = st) (hW : (rest.map fun v => v.category).sum ≤ 8) (k : ∀ r : Unit, zz_Sim sh l G M d val mem (K r) (pc + 3) lv rest μ) : zz_Sim sh l G M d val mem (zz_bndR f' K) pc lv st μ :=
  zs_cV hcon hd L ho hr hdd hn hst hW (fun q => k q)
theorem zs_cS_vR {f' : Option Unit} {K : Unit → Option τ} (hcon : zz_Con sh l G M' d' As zz_vVr (zz_mC μ) f' μ) (hd : decode M.2.1 pc = .ok (.invokestatic idx, 3)) (L : zz_LS M.1.cls idx M') (ho : zz_ok M' n) (hdd : d' + 1 ≤ d) (hn : As.length = n) (hst : As.reverse ++ rest = st) (hW : (rest.map fun v => v.category).sum ≤ 8) (k : ∀ r : Unit, zz_Sim sh l G M d val mem (K r) (pc + 3) lv rest μ) : zz_Sim sh l G M d val mem (zz_bndR f' K) pc lv st μ :=
  zs_cS hcon hd L ho hdd hn hst hW (fun q => k q)
theorem zs_ldcS {w : Nat} (hd : decode M.2.1 pc = .ok (.ldc idx, 2)) (hq0 : (M.1.cls, idx, zz_strs.getD w "", w) ∈ zz_ldcs) (k : zz_Sim sh l G M d val mem f (pc + 2) lv (.ref (zz_sk G w) :: st) μ) : zz_Sim sh l G M d val mem f pc lv st μ :=
  fun q hq p e s m args below meth c C H locs ls hP hS hl => va_ldcS C.1 C.2.1 C.2.2.2.2.1 (C.2.2.2.2.2.2.2.2.2.2.1 _ hq0) hd (k q hq p e s m args below meth c C H locs ls hP hS hl)
theorem zs_strV {w : Nat} (hd : decode M.2.1 pc = .ok (.getfield idx, 3)) (hw : w < 30) (hl0 : Cond.fieldLink M.1.cls idx "java/lang/String" "value" "[B" ∈ zz_tbl) (k : zz_Sim sh l G M d val mem f (pc + 3) lv (.ref (zz_sv G w) :: st) μ) : zz_Sim sh l G M d val mem f pc lv (.ref (zz_sk G w) :: st) μ :=
  fun q hq p e s m args below meth c C H locs ls hP hS hl => vk_getf C.1 C.2.1 ((C.2.2.2.2.2.2.2.2.2.1.1 w hw).2.2.1) hS C.2.2.2.2.1 (C.2.2.2.2.2.1 _ (List.mem_cons_of_mem _ hl0)) (fun _ h9 => h9) hd (k q hq p e s m args below meth c C H locs ls hP hS hl)
theorem zs_strC {w : Nat} (hd : decode M.2.1 pc = .ok (.getfield idx, 3)) (hw : w < 30) (hl0 : Cond.fieldLink M.1.cls idx "java/lang/String" "coder" "B" ∈ zz_tbl) (k : zz_Sim sh l G M d val mem f (pc + 3) lv (.int 0 :: st) μ) : zz_Sim sh l G M d val mem f pc lv (.ref (zz_sk G w) :: st) μ :=
  fun q hq p e s m args below meth c C H locs ls hP hS hl => vk_getf C.1 C.2.1 ((C.2.2.2.2.2.2.2.2.2.1.1 w hw).2.1) hS C.2.2.2.2.1 (C.2.2.2.2.2.1 _ (List.mem_cons_of_mem _ hl0)) (fun _ h9 => h9) hd (k q hq p e s m args below meth c C H locs ls hP hS hl)
theorem zs_svlen {w : Nat} (hd : decode M.2.1 pc = .ok (.arraylength, 1)) (hw : w < 30) (k : zz_Sim sh l G M d val mem f (pc + 1) lv (.int (Int32.ofNat (zz_sl w)) :: st) μ) : zz_Sim sh l G M d val mem f pc lv (.ref (zz_sv G w) :: st) μ :=
  fun q hq p e s m args below meth c C H locs ls hP hS hl => va_tlen C.1 C.2.1 ((C.2.2.2.2.2.2.2.2.2.1.1 w hw).2.2.2) hS rfl hd (k q hq p e s m args below meth c C H locs ls hP hS hl)
theorem zs_svld {w : Nat} {i : Int32} (hd : decode M.2.1 pc = .ok (.baload, 1)) (hw : w < 30) (k : zz_Sim sh l G M d val mem f (pc + 1) lv (.int (zz_sb w i.toNatClampNeg) :: st) μ) : zz_Sim sh l G M d val mem (zz_ix i (zz_sl w) f) pc lv (.int i :: .ref (zz_sv G w) :: st) μ := by
  unfold zz_ix
  by_cases h : i < 0 ∨ zz_sl w ≤ i.toNatClampNeg
  · rw [if_pos h]; exact zs_none
  · rw [if_neg h]
    exact fun q hq p e s m args below meth c C H locs ls hP hS hl => va_tb C.1 C.2.1 ((C.2.2.2.2.2.2.2.2.2.1.1 w hw).2.2.2) hS h rfl hd (k q hq p e s m args below meth c C H locs ls hP hS hl)
theorem zs_compact (hd : decode M.2.1 pc = .ok (.getstatic idx, 3)) (hl0 : Cond.fieldLink M.1.cls idx "java/lang/String" "COMPACT_STRINGS" "Z" ∈ zz_tbl) (k : zz_Sim sh l G M d val mem f (pc + 3) lv (.int 1 :: st) μ) : zz_Sim sh l G M d val mem f pc lv st μ :=
  fun q hq p e s m args below meth c C H locs ls hP hS hl => va_gets C.1 C.2.1 C.2.2.2.2.2.2.2.2.2.1.2.1 hS C.2.2.2.2.1 (C.2.2.2.2.2.1 _ (List.mem_cons_of_mem _ hl0)) (fun _ h9 => h9) hd (k q hq p e s m args below meth c C H locs ls hP hS hl)
theorem zs_cret {q : τ} {v : Int32} (hd : decode M.2.1 pc = .ok (.ireturn, 1)) (hr : M.2.2.2 = some .char) (hv : val q = some (.int v)) (hm : mem q = μ) : zz_Sim sh l G M d val mem (zz_cg v (some q)) pc lv [.int v] μ := by
  unfold zz_cg
  by_cases h : (v.toUInt32 % 65536).toInt32 = v
  · rw [if_pos h]; exact zs_zret hd hr (by rw [← h]; exact pk_nc _) hv hm
  · rw [if_neg h]; exact zs_none
theorem zs_getQg {ci i : Nat} {ty : FieldType} {fin : Bool} {kk x y : Nat} {fs : List (Nat × Nat)} (F : zz_FL M.1.cls idx ci i ty fin) (hd : decode M.2.1 pc = .ok (.getfield idx, 3)) (S0 : zz_SH sh G kk (4, ci, fs)) (hf : fs[i]? = some (3, y)) (k : zz_Sim sh l G M d val mem f (pc + 3) lv (.ref (zz_a G x) :: st) μ) : zz_Sim sh l G M d val mem (zz_rg μ kk i x f) pc lv (.ref (zz_a G kk) :: st) μ := by
  unfold zz_rg
  by_cases h : μ.2.2 kk i = some x
  · rw [if_pos h]
    refine zs_getQ F hd S0 hf ?_
    rw [h]
    exact k
  · rw [if_neg h]; exact zs_none
theorem zs_putQ {ci i : Nat} {ty : FieldType} {kk x v : Nat} {fs : List (Nat × Nat)} {K : zz_Mem → Option τ} (F : zz_FL M.1.cls idx ci i ty false) (hd : decode M.2.1 pc = .ok (.putfield idx, 3)) (S0 : zz_SH sh G kk (4, ci, fs)) (hf : fs[i]? = some (3, x)) (hn : narrow ty (.ref (zz_a G v)) = .ref (zz_a G v) ∧ fits ty (.ref (zz_a G v)) = true) (k : ∀ m1, zz_Sim sh l G M d val mem (K m1) (pc + 3) lv st m1) : zz_Sim sh l G M d val mem (zz_letM (zz_setR μ kk i (some v)) K) pc lv (.ref (zz_a G v) :: .ref (zz_a G kk) :: st) μ := by
  intro q hq p e s m args below meth c C H locs ls hP hS hl
  obtain ⟨hk, hsh⟩ := S0
  obtain ⟨CC, T, n, h1, h2, h3, h4, ⟨ty0, h5, h5'⟩, h6, h7⟩ := F
  have hw := C.2.2.2.2.2.1
  have hD := zz_wd_D (sh := sh) C.2.2.2.2.2.2.2.2.1 μ
  have hlt : i < fs.length := (List.getElem?_eq_some_iff.mp hf).1
  refine va_put (D := zz_D G) (Ts := zz_ws M) C.1 C.2.1 hw (fun w h => List.mem_cons_of_mem _ (h4 w h)) ty0 h5 h6 C.2.2.2.2.1 C.2.2.2.2.2.2.2.1 hP hD hS kk (fs := fs.mapIdx (zz_fld G μ kk)) (by rw [zz_wd_at hk, hsh]; rfl) h1 i h2 (hw _ (List.mem_cons_of_mem _ h3)) (fun _ h9 => h9) h7 (ty := ty) (v := .ref (zz_a G v)) (by rw [h5 i h2, h5']) hn.1 hn.2 (by rw [List.length_mapIdx]; exact hlt) hd (fun H1 locs1 hP1 _ hS1 => ?_)
  have e1 : (zz_wd sh G μ).set kk (zz_a G kk, .inr (ci, (fs.mapIdx (zz_fld G μ kk)).set i (.ref (zz_a G v)))) = zz_wd sh G (zz_setR μ kk i (some v)) := by
    refine zz_wd_set hk ?_ (fun j hj => zz_enc_off _ rfl rfl (va_up_n _ _ hj))
    rw [hsh]
    show Sum.inr (ci, fs.mapIdx (zz_fld G (zz_setR μ kk i (some v)) kk)) = _
    congr 2
    apply List.ext_getElem?
    intro j
    rw [List.getElem?_mapIdx, List.getElem?_set, List.getElem?_mapIdx]
    by_cases hj : i = j
    · subst hj
      rw [if_pos rfl, if_pos (by rw [List.length_mapIdx]; exact hlt), hf]
      simp [zz_fld, zz_setR, va_up, va_rf]
    · rw [if_neg hj]
      cases hfj : fs[j]? with
      | none => rfl
      | some f0 =>
        have hj2 : ¬ j = i := fun z => hj z.symm
        simp only [Option.map_some, zz_fld, zz_setR, va_up, hj2, if_true, if_false]
  rw [e1] at hP1
  exact k _ q hq p e s m args below meth c C H1 locs1 ls hP1 hS1 hl
theorem zs_aaldStand {kk b0 sd z : Nat} {i : Int32} (hd : decode M.2.1 pc = .ok (.aaload, 1)) (S0 : zz_SH sh G kk (5, n, [(4, z), (b0, sd)])) (k : i.toNatClampNeg < n → zz_Sim sh l G M d val mem f (pc + 1) lv (.ref (zz_a G (b0 + sd * i.toNatClampNeg)) :: st) μ) : zz_Sim sh l G M d val mem (zz_ix i n f) pc lv (.int i :: .ref (zz_a G kk) :: st) μ := by
  unfold zz_ix
  by_cases h : i < 0 ∨ n ≤ i.toNatClampNeg
  · rw [if_pos h]; exact zs_none
  · rw [if_neg h]
    obtain ⟨hk, hsh⟩ := S0
    have hlt : i.toNatClampNeg < n := Nat.not_le.mp fun z => h (Or.inr z)
    exact fun q hq p e s m args below meth c C H locs ls hP hS hl => va_aldq (f := fun j => some (zz_a G (b0 + sd * j))) C.1 C.2.1 C.2.2.2.2.2.2.2.1 hP kk 4 (by rw [zz_wd_at hk, hsh]; rfl) (C := "PillarDesk$Stand") rfl h hd (k hlt q hq p e s m args below meth c C H locs ls hP hS hl)
theorem zs_alen4 {kk : Nat} {x : Nat} {xs : List (Nat × Nat)} {v : Int32} (hd : decode M.2.1 pc = .ok (.arraylength, 1)) (S0 : zz_SH sh G kk (5, n, (4, x) :: xs)) (hv : Int32.ofNat n = v) (k : zz_Sim sh l G M d val mem f (pc + 1) lv (.int v :: st) μ) : zz_Sim sh l G M d val mem f pc lv (.ref (zz_a G kk) :: st) μ := by
  obtain ⟨hk, hsh⟩ := S0
  exact fun q hq p e s m args below meth c C H locs ls hP hS hl => va_alen C.1 C.2.1 C.2.2.2.2.2.2.2.1 hP kk 4 (by rw [zz_wd_at hk, hsh]; rfl) rfl hv hd (k q hq p e s m args below meth c C H locs ls hP hS hl)
theorem zs_aaldTray {kk b0 sd z : Nat} {i : Int32} (hd : decode M.2.1 pc = .ok (.aaload, 1)) (S0 : zz_SH sh G kk (5, n, [(5, z), (b0, sd)])) (k : i.toNatClampNeg < n → zz_Sim sh l G M d val mem f (pc + 1) lv (.ref (zz_a G (b0 + sd * i.toNatClampNeg)) :: st) μ) : zz_Sim sh l G M d val mem (zz_ix i n f) pc lv (.int i :: .ref (zz_a G kk) :: st) μ := by
  unfold zz_ix
  by_cases h : i < 0 ∨ n ≤ i.toNatClampNeg
  · rw [if_pos h]; exact zs_none
  · rw [if_neg h]
    obtain ⟨hk, hsh⟩ := S0
    have hlt : i.toNatClampNeg < n := Nat.not_le.mp fun z => h (Or.inr z)
    exact fun q hq p e s m args below meth c C H locs ls hP hS hl => va_aldq (f := fun j => some (zz_a G (b0 + sd * j))) C.1 C.2.1 C.2.2.2.2.2.2.2.1 hP kk 5 (by rw [zz_wd_at hk, hsh]; rfl) (C := "PillarDesk$Tray") rfl h hd (k hlt q hq p e s m args below meth c C H locs ls hP hS hl)
theorem zs_alen5 {kk : Nat} {x : Nat} {xs : List (Nat × Nat)} {v : Int32} (hd : decode M.2.1 pc = .ok (.arraylength, 1)) (S0 : zz_SH sh G kk (5, n, (5, x) :: xs)) (hv : Int32.ofNat n = v) (k : zz_Sim sh l G M d val mem f (pc + 1) lv (.int v :: st) μ) : zz_Sim sh l G M d val mem f pc lv (.ref (zz_a G kk) :: st) μ := by
  obtain ⟨hk, hsh⟩ := S0
  exact fun q hq p e s m args below meth c C H locs ls hP hS hl => va_alen C.1 C.2.1 C.2.2.2.2.2.2.2.1 hP kk 5 (by rw [zz_wd_at hk, hsh]; rfl) rfl hv hd (k q hq p e s m args below meth c C H locs ls hP hS hl)
theorem zs_alen6 {kk : Nat} {x : Nat} {xs : List (Nat × Nat)} {v : Int32} (hd : decode M.2.1 pc = .ok (.arraylength, 1)) (S0 : zz_SH sh G kk (6, n, (6, x) :: xs)) (hv : Int32.ofNat n = v) (k : zz_Sim sh l G M d val mem f (pc + 1) lv (.int v :: st) μ) : zz_Sim sh l G M d val mem f pc lv (.ref (zz_a G kk) :: st) μ := by
  obtain ⟨hk, hsh⟩ := S0
  exact fun q hq p e s m args below meth c C H locs ls hP hS hl => va_alen C.1 C.2.1 C.2.2.2.2.2.2.2.1 hP kk 6 (by rw [zz_wd_at hk, hsh]; rfl) rfl hv hd (k q hq p e s m args below meth c C H locs ls hP hS hl)
theorem zz_acs : Cond.native arraycopyName ∈ zz_tbl ∧ Cond.static arraycopyName ∈ zz_tbl ∧ Cond.initialized "java/lang/System" ∈ zz_tbl := ⟨tm_986, tm_985, tm_149⟩
theorem zs_acopy {ks kd : Nat} {x x' : List (Nat × Nat)} {ni : Int32} {K : zz_Mem → Option τ} (hd : decode M.2.1 pc = .ok (.invokestatic idx, 3)) (hl0 : Cond.methodLink M.1.cls idx arraycopyName ∈ zz_tbl) (S0 : zz_SH sh G ks (0, n, x)) (S1 : zz_SH sh G kd (0, n, x')) (hn : ni.toNatClampNeg = n) (hni : ¬ ni < 0) (hdd : 1 ≤ d) (hW : (st.map fun v => v.category).sum ≤ 8) (k : ∀ m1, zz_Sim sh l G M d val mem (K m1) (pc + 3) lv st m1) : zz_Sim sh l G M d val mem (zz_letM (zz_rowI μ kd (va_cpy (μ.1 ks) (μ.1 kd) 0 0 n)) K) pc lv (.int ni :: .int 0 :: .ref (zz_a G kd) :: .int 0 :: .ref (zz_a G ks) :: st) μ := by
  intro q hq p e s m args below meth c C H locs ls hP hS hl
  obtain ⟨hk, hsh⟩ := S0
  obtain ⟨hk1, hsh1⟩ := S1
  have hw := C.2.2.2.2.2.1
  have hD := zz_wd_D (sh := sh) C.2.2.2.2.2.2.2.2.1 μ
  have hnw : nativeFrameWords "java/lang/System" "arraycopy" 5 + 11 ≤ 32 := by decide
  refine va_copyi (ty := .int) C.1 C.2.1 (C.2.2.2.1.trans hl.1.symm) C.2.2.2.2.1 (hw _ (List.mem_cons_of_mem _ hl0)) (hw _ (List.mem_cons_of_mem _ zz_acs.1)) (hw _ (List.mem_cons_of_mem _ zz_acs.2.1)) (hw _ (List.mem_cons_of_mem _ zz_acs.2.2)) C.2.2.2.2.2.2.2.1 hP hD hS ks kd 0 0 (f := μ.1 ks) (g := μ.1 kd) (n0 := n) (n1 := n) (by rw [zz_wd_at hk, hsh]; rfl) (by rw [zz_wd_at hk1, hsh1]; rfl) rfl rfl rfl (by decide) (by decide) hni (by rw [hn]; exact Nat.le_of_eq (Nat.zero_add _)) (by rw [hn]; exact Nat.le_of_eq (Nat.zero_add _)) (fun _ _ => rfl) hdd (by show _ ≤ 40 * d; omega) hd (fun H1 locs1 hP1 _ hS1 => ?_)
  rw [hn] at hP1
  have e0 : (0 : Int32).toNatClampNeg = 0 := rfl
  rw [e0, zz_wd_set (μ := μ) (μ' := zz_rowI μ kd (va_cpy (μ.1 ks) (μ.1 kd) 0 0 n)) hk1 (by rw [hsh1]; simp only [zz_encS, zz_rowI, va_up_s]) (fun j hj => zz_enc_off _ (va_up_n _ _ hj) rfl rfl)] at hP1
  exact k _ q hq p e s m args below meth c C H1 locs1 ls hP1 hS1 hl
end ZX
