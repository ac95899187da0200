/-! ===== what holds at the entry of the law ===== -/
theorem zE_str {args : Array Value} {s : State} {tm : Term} {len : Nat} {byt : Nat → Int32} {A : Nat → Prop} (hN : len < 2 ^ 31) (hex : (Cond.exactly tm "java/lang/String").before args s = true) (hco : (Cond.eq (.field tm "java/lang/String" "coder" "B") (.int 0)).before args s = true)
    (har : (Cond.arrayOf (.field tm "java/lang/String" "value" "[B") .byte).before args s = true) (hle : (Cond.eq (.length (.field tm "java/lang/String" "value" "[B")) (.int (Int32.ofNat len))).before args s = true)
    (hel : ∀ j : Nat, j < len → (Cond.eq (.elem (.field tm "java/lang/String" "value" "[B") (.int (Int32.ofNat j))) (.int (byt j))).before args s = true) (hA : ∀ a : Nat, a < s.heap.size → ¬ A a) :
    ∃ k v : Nat, tm.eval args s none [] s = some (.ref k) ∧ va_O "java/lang/String" k A s s.heap ∧ va_OF "java/lang/String" "coder" "B" (.int 0) k A s s.heap ∧ va_OF "java/lang/String" "value" "[B" (.ref v) k A s s.heap ∧ va_T .byte v len (fun j => .int (byt j)) A s s.heap := by
  obtain ⟨a, c, cA, kA, q1, q2, q3, q4, q5, q6, -⟩ := Cond.exactly_spec (args := args) (first := s) (o := none) (s := s) (idx := []) (t := tm) (cls := "java/lang/String") hex
  obtain ⟨t, ht, hT⟩ := va_Tof (f := fun j => .int (byt j)) (A := A) hN har (va_eqt hle) (fun j hj => va_eqt (hel j hj)) hA
  exact ⟨a, t, q1, ⟨cA, q3, q5, by rw [q6]; exact q2, hA a (Array.getElem?_eq_some_iff.mp q3).1⟩, vk_OFof q1 (va_eqt hco) hA, vk_OFof q1 ht hA, hT⟩
def zE_tm : Nat → Term := fun i => match i with
  | 0 => .string "PillarDesk$Reader" 78
  | 1 => .string "PillarDesk$Reader" 103
  | 2 => .string "PillarDesk$Reader" 109
  | 3 => .string "PillarDesk$Reader" 116
  | 4 => .string "PillarDesk$Reader" 120
  | 5 => .string "PillarDesk$Reader" 138
  | 6 => .string "PillarDesk$Reader" 143
  | 7 => .string "PillarDesk$Reader" 189
  | 8 => .string "PillarDesk$Reader" 191
  | 9 => .string "PillarDesk$Reader" 148
  | 10 => .string "PillarDesk$Reader" 150
  | 11 => .string "PillarDesk$Reader" 152
  | 12 => .string "PillarDesk$Reader" 201
  | 13 => .string "PillarDesk$Reader" 203
  | 14 => .string "PillarDesk$Reader" 157
  | 15 => .string "PillarDesk$Reader" 249
  | 16 => .string "PillarDesk$Reader" 291
  | 17 => .string "PillarDesk$Reader" 289
  | 18 => .string "PillarDesk$Reader" 284
  | 19 => .string "PillarDesk$Reader" 257
  | 20 => .string "PillarDesk$Reader" 259
  | 21 => .string "PillarDesk$Reader" 261
  | 22 => .string "PillarDesk$Reader" 269
  | 23 => .string "PillarDesk$Reader" 271
  | 24 => .string "PillarDesk$Reader" 273
  | 25 => .string "PillarDesk$Reader" 275
  | 26 => .string "PillarDesk$Reader" 277
  | 27 => .string "PillarDesk$Reader" 279
  | 28 => .string "PillarDesk$Reader" 162
  | _ => .string "PillarDeskModel" 107
theorem zE_ex : ∀ i, i < 30 → Cond.exactly (zE_tm i) "java/lang/String" ∈ flatC (Jvm.Cond.and given_1 narrow_1) := by decide +kernel
theorem zE_co : ∀ i, i < 30 → Cond.eq (.field (zE_tm i) "java/lang/String" "coder" "B") (.int 0) ∈ flatC (Jvm.Cond.and given_1 narrow_1) := by decide +kernel
theorem zE_ar : ∀ i, i < 30 → Cond.arrayOf (.field (zE_tm i) "java/lang/String" "value" "[B") .byte ∈ flatC (Jvm.Cond.and given_1 narrow_1) := by decide +kernel
theorem zE_le : ∀ i, i < 30 → Cond.eq (.length (.field (zE_tm i) "java/lang/String" "value" "[B")) (.int (Int32.ofNat (zz_sl i))) ∈ flatC (Jvm.Cond.and given_1 narrow_1) := by decide +kernel
def zE_C (i j : Nat) : Cond := Cond.eq (.elem (.field (zE_tm i) "java/lang/String" "value" "[B") (.int (Int32.ofNat j))) (.int (zz_sb i j))
theorem zE_elof {base len i : Nat} (h : ((flatC (Jvm.Cond.and given_1 narrow_1)).drop base).take len = (List.range len).map (zE_C i)) : ∀ j, j < len → zE_C i j ∈ flatC (Jvm.Cond.and given_1 narrow_1) := by
  intro j hj
  have h1 : zE_C i j ∈ (List.range len).map (zE_C i) := List.mem_map.mpr ⟨j, List.mem_range.mpr hj, rfl⟩
  rw [← h] at h1
  exact List.mem_of_mem_drop (List.mem_of_mem_take h1)
theorem zE_el0 : ((flatC (Jvm.Cond.and given_1 narrow_1)).drop 52).take 12 = (List.range 12).map (zE_C 0) := by decide +kernel
theorem zE_el1 : ((flatC (Jvm.Cond.and given_1 narrow_1)).drop 68).take 4 = (List.range 4).map (zE_C 1) := by decide +kernel
theorem zE_el2 : ((flatC (Jvm.Cond.and given_1 narrow_1)).drop 76).take 5 = (List.range 5).map (zE_C 2) := by decide +kernel
theorem zE_el3 : ((flatC (Jvm.Cond.and given_1 narrow_1)).drop 85).take 5 = (List.range 5).map (zE_C 3) := by decide +kernel
theorem zE_el4 : ((flatC (Jvm.Cond.and given_1 narrow_1)).drop 94).take 5 = (List.range 5).map (zE_C 4) := by decide +kernel
theorem zE_el5 : ((flatC (Jvm.Cond.and given_1 narrow_1)).drop 103).take 7 = (List.range 7).map (zE_C 5) := by decide +kernel
theorem zE_el6 : ((flatC (Jvm.Cond.and given_1 narrow_1)).drop 114).take 7 = (List.range 7).map (zE_C 6) := by decide +kernel
theorem zE_el7 : ((flatC (Jvm.Cond.and given_1 narrow_1)).drop 125).take 5 = (List.range 5).map (zE_C 7) := by decide +kernel
theorem zE_el8 : ((flatC (Jvm.Cond.and given_1 narrow_1)).drop 134).take 4 = (List.range 4).map (zE_C 8) := by decide +kernel
theorem zE_el9 : ((flatC (Jvm.Cond.and given_1 narrow_1)).drop 142).take 7 = (List.range 7).map (zE_C 9) := by decide +kernel
theorem zE_el10 : ((flatC (Jvm.Cond.and given_1 narrow_1)).drop 153).take 4 = (List.range 4).map (zE_C 10) := by decide +kernel
theorem zE_el11 : ((flatC (Jvm.Cond.and given_1 narrow_1)).drop 161).take 4 = (List.range 4).map (zE_C 11) := by decide +kernel
theorem zE_el12 : ((flatC (Jvm.Cond.and given_1 narrow_1)).drop 169).take 5 = (List.range 5).map (zE_C 12) := by decide +kernel
theorem zE_el13 : ((flatC (Jvm.Cond.and given_1 narrow_1)).drop 178).take 4 = (List.range 4).map (zE_C 13) := by decide +kernel
theorem zE_el14 : ((flatC (Jvm.Cond.and given_1 narrow_1)).drop 186).take 5 = (List.range 5).map (zE_C 14) := by decide +kernel
theorem zE_el15 : ((flatC (Jvm.Cond.and given_1 narrow_1)).drop 195).take 2 = (List.range 2).map (zE_C 15) := by decide +kernel
theorem zE_el16 : ((flatC (Jvm.Cond.and given_1 narrow_1)).drop 201).take 3 = (List.range 3).map (zE_C 16) := by decide +kernel
theorem zE_el17 : ((flatC (Jvm.Cond.and given_1 narrow_1)).drop 208).take 3 = (List.range 3).map (zE_C 17) := by decide +kernel
theorem zE_el18 : ((flatC (Jvm.Cond.and given_1 narrow_1)).drop 215).take 2 = (List.range 2).map (zE_C 18) := by decide +kernel
theorem zE_el19 : ((flatC (Jvm.Cond.and given_1 narrow_1)).drop 221).take 4 = (List.range 4).map (zE_C 19) := by decide +kernel
theorem zE_el20 : ((flatC (Jvm.Cond.and given_1 narrow_1)).drop 229).take 4 = (List.range 4).map (zE_C 20) := by decide +kernel
theorem zE_el21 : ((flatC (Jvm.Cond.and given_1 narrow_1)).drop 237).take 3 = (List.range 3).map (zE_C 21) := by decide +kernel
theorem zE_el22 : ((flatC (Jvm.Cond.and given_1 narrow_1)).drop 244).take 4 = (List.range 4).map (zE_C 22) := by decide +kernel
theorem zE_el23 : ((flatC (Jvm.Cond.and given_1 narrow_1)).drop 252).take 4 = (List.range 4).map (zE_C 23) := by decide +kernel
theorem zE_el24 : ((flatC (Jvm.Cond.and given_1 narrow_1)).drop 260).take 4 = (List.range 4).map (zE_C 24) := by decide +kernel
theorem zE_el25 : ((flatC (Jvm.Cond.and given_1 narrow_1)).drop 268).take 5 = (List.range 5).map (zE_C 25) := by decide +kernel
theorem zE_el26 : ((flatC (Jvm.Cond.and given_1 narrow_1)).drop 277).take 4 = (List.range 4).map (zE_C 26) := by decide +kernel
theorem zE_el27 : ((flatC (Jvm.Cond.and given_1 narrow_1)).drop 285).take 4 = (List.range 4).map (zE_C 27) := by decide +kernel
theorem zE_el28 : ((flatC (Jvm.Cond.and given_1 narrow_1)).drop 293).take 5 = (List.range 5).map (zE_C 28) := by decide +kernel
theorem zE_el29 : ((flatC (Jvm.Cond.and given_1 narrow_1)).drop 302).take 151 = (List.range 151).map (zE_C 29) := by decide +kernel
set_option maxRecDepth 20000 in
theorem zE_el : ∀ i, i < 30 → ∀ j, j < zz_sl i → zE_C i j ∈ flatC (Jvm.Cond.and given_1 narrow_1) := by
  intro i hi j hj
  match i, hi with
  | 0, _ => exact zE_elof zE_el0 j hj
  | 1, _ => exact zE_elof zE_el1 j hj
  | 2, _ => exact zE_elof zE_el2 j hj
  | 3, _ => exact zE_elof zE_el3 j hj
  | 4, _ => exact zE_elof zE_el4 j hj
  | 5, _ => exact zE_elof zE_el5 j hj
  | 6, _ => exact zE_elof zE_el6 j hj
  | 7, _ => exact zE_elof zE_el7 j hj
  | 8, _ => exact zE_elof zE_el8 j hj
  | 9, _ => exact zE_elof zE_el9 j hj
  | 10, _ => exact zE_elof zE_el10 j hj
  | 11, _ => exact zE_elof zE_el11 j hj
  | 12, _ => exact zE_elof zE_el12 j hj
  | 13, _ => exact zE_elof zE_el13 j hj
  | 14, _ => exact zE_elof zE_el14 j hj
  | 15, _ => exact zE_elof zE_el15 j hj
  | 16, _ => exact zE_elof zE_el16 j hj
  | 17, _ => exact zE_elof zE_el17 j hj
  | 18, _ => exact zE_elof zE_el18 j hj
  | 19, _ => exact zE_elof zE_el19 j hj
  | 20, _ => exact zE_elof zE_el20 j hj
  | 21, _ => exact zE_elof zE_el21 j hj
  | 22, _ => exact zE_elof zE_el22 j hj
  | 23, _ => exact zE_elof zE_el23 j hj
  | 24, _ => exact zE_elof zE_el24 j hj
  | 25, _ => exact zE_elof zE_el25 j hj
  | 26, _ => exact zE_elof zE_el26 j hj
  | 27, _ => exact zE_elof zE_el27 j hj
  | 28, _ => exact zE_elof zE_el28 j hj
  | 29, _ => exact zE_elof zE_el29 j hj
  | i + 30, h => exact absurd h (by omega)
theorem zE_sl : ∀ i, i < 30 → zz_sl i < 2 ^ 31 := by decide +kernel
theorem zE_same : Cond.eq (.string "PillarDeskModel" 145) (.string "PillarDesk$Reader" 78) ∈ flatC (Jvm.Cond.and given_1 narrow_1) ∨ Cond.eq (.string "PillarDesk$Reader" 78) (.string "PillarDeskModel" 145) ∈ flatC (Jvm.Cond.and given_1 narrow_1) := by decide +kernel
theorem zE_cmp : Cond.eq (.static "java/lang/String" "COMPACT_STRINGS" "Z") (.int 1) ∈ flatC (Jvm.Cond.and given_1 narrow_1) := by decide +kernel
theorem zE_fmt : Cond.isRef (.static "jdk/internal/util/Preconditions" "SIOOBE_FORMATTER" "Ljava/util/function/BiFunction;") ∈ flatC (Jvm.Cond.and given_1 narrow_1) := by decide +kernel
theorem zE_ld : ∀ q ∈ zz_ldcs, Cond.stringRef q.1 q.2.1 q.2.2.1 ∈ lw_tbl := by decide +kernel
theorem zE_ns : ∀ q ∈ zz_nests, Cond.methodLinkNest q.1 q.2.1 q.2.2 RX11 ∈ lw_tbl := by decide +kernel
theorem zE_ldt : ∀ q ∈ zz_ldcs, q.2.2.2 < 30 ∧ (Term.string q.1 q.2.1 = zE_tm q.2.2.2 ∨ (q.1 = "PillarDeskModel" ∧ q.2.1 = 145 ∧ q.2.2.2 = 0)) := by decide +kernel
