/-! ===== the environment at the entry of the law ===== -/
set_option maxRecDepth 20000 in
theorem zE_env {b : Nat} {s : State} (hts : ∀ w ∈ lw_tbl, w.before #[Value.ref b] s = true) (hgv : (Jvm.Cond.and given_1 narrow_1).before #[Value.ref b] s = true) : ∃ E : zz_G, zA_Env E s ∧ ∀ q, zz_A E q ↔ s.heap.size ≤ q := by
  have hs := flat_of_before _ hgv
  have hA : ∀ a : Nat, a < s.heap.size → ¬ (fun q : Nat => s.heap.size ≤ q) a := fun a h => Nat.not_le.mpr h
  obtain ⟨c0, i0, K0⟩ := u_known (C := RX0) (T := TX0) (N := 2) (n := 2) hts (fun w h => zL_in (inX0 w h)) (hts (.instantiable RX0 2) (List.mem_of_getElem? (i := 396) (by decide +kernel)))
  obtain ⟨c1, i1, K1⟩ := u_known (C := RX1) (T := TX1) (N := 11) (n := 11) hts (fun w h => zL_in (inX1 w h)) (hts (.instantiable RX1 11) (List.mem_of_getElem? (i := 462) (by decide +kernel)))
  obtain ⟨c2, i2, K2⟩ := u_known (C := RX2) (T := TX2) (N := 5) (n := 5) hts (fun w h => zL_in (inX2 w h)) (hts (.instantiable RX2 5) (List.mem_of_getElem? (i := 507) (by decide +kernel)))
  obtain ⟨c3, i3, K3⟩ := u_known (C := RX3) (T := TX3) (N := 8) (n := 8) hts (fun w h => zL_in (inX3 w h)) (hts (.instantiable RX3 8) (List.mem_of_getElem? (i := 165) (by decide +kernel)))
  obtain ⟨c4, i4, K4⟩ := u_known (C := RX4) (T := TX4) (N := 7) (n := 7) hts (fun w h => zL_in (inX4 w h)) (hts (.instantiable RX4 7) (List.mem_of_getElem? (i := 531) (by decide +kernel)))
  obtain ⟨c5, i5, K5⟩ := u_known (C := RX5) (T := TX5) (N := 3) (n := 3) hts (fun w h => zL_in (inX5 w h)) (hts (.instantiable RX5 3) (List.mem_of_getElem? (i := 368) (by decide +kernel)))
  obtain ⟨c6, i6, K6⟩ := u_known (C := RX6) (T := TX6) (N := 14) (n := 14) hts (fun w h => zL_in (inX6 w h)) (hts (.instantiable RX6 14) (List.mem_of_getElem? (i := 159) (by decide +kernel)))
  obtain ⟨c7, i7, K7⟩ := u_known (C := RX7) (T := TX7) (N := 10) (n := 10) hts (fun w h => zL_in (inX7 w h)) (hts (.instantiable RX7 10) (List.mem_of_getElem? (i := 326) (by decide +kernel)))
  obtain ⟨c8, i8, K8⟩ := u_known (C := RX8) (T := TX8) (N := 11) (n := 11) hts (fun w h => zL_in (inX8 w h)) (hts (.instantiable RX8 11) (List.mem_of_getElem? (i := 390) (by decide +kernel)))
  obtain ⟨c9, i9, K9⟩ := u_known (C := RX9) (T := TX9) (N := 3) (n := 3) hts (fun w h => zL_in (inX9 w h)) (hts (.instantiable RX9 3) (List.mem_of_getElem? (i := 209) (by decide +kernel)))
  obtain ⟨c10, i10, K10⟩ := u_known (C := RX10) (T := TX10) (N := 3) (n := 3) hts (fun w h => zL_in (inX10 w h)) (hts (.instantiable RX10 3) (List.mem_of_getElem? (i := 561) (by decide +kernel)))
  obtain ⟨c11, i11, K11⟩ := u_known (C := RX11) (T := TX11) (N := 20) (n := 20) hts (fun w h => zL_in (inX11 w h)) (hts (.instantiable RX11 20) (List.mem_of_getElem? (i := 151) (by decide +kernel)))
  obtain ⟨c12, i12, K12⟩ := u_known (C := RX12) (T := TX12) (N := 42) (n := 42) hts (fun w h => zL_in (inX12 w h)) (hts (.instantiable RX12 42) (List.mem_of_getElem? (i := 1478) (by decide +kernel)))
  obtain ⟨aI, kI, mI, fI1, fI2, fI3⟩ := Cond.arrayClass_spec (type := .int) (args := #[Value.ref b]) (first := s) (o := none) (s := s) (idx := []) (hts (.arrayClass .int) (zL_in zA_arrI))
  obtain ⟨aJ, kJ, mJ, fJ1, fJ2, fJ3⟩ := Cond.arrayClass_spec (type := .long) (args := #[Value.ref b]) (first := s) (o := none) (s := s) (idx := []) (hts (.arrayClass .long) (zL_in zA_arrJ))
  obtain ⟨aB, kB, mB, fB1, fB2, fB3⟩ := Cond.arrayClass_spec (type := .byte) (args := #[Value.ref b]) (first := s) (o := none) (s := s) (idx := []) (hts (.arrayClass .byte) (zL_in zA_arrB))
  obtain ⟨aZ, kZ, mZ, fZ1, fZ2, fZ3⟩ := Cond.arrayClass_spec (type := .boolean) (args := #[Value.ref b]) (first := s) (o := none) (s := s) (idx := []) (hts (.arrayClass .boolean) (zL_in zA_arrZ))
  have oS := hts (.arrayOver (.object "PillarDesk$Stand")) (List.mem_of_getElem? (i := 374) (by decide +kernel))
  obtain ⟨mS, aS, kS, gS1, -, gS2, gS3, gS4⟩ := Cond.arrayOver_spec (n := "PillarDesk$Stand") (args := #[Value.ref b]) (first := s) (o := none) (s := s) (idx := []) oS
  have oT := hts (.arrayOver (.object "PillarDesk$Tray")) (List.mem_of_getElem? (i := 366) (by decide +kernel))
  obtain ⟨mT, aT, kT, gT1, -, gT2, gT3, gT4⟩ := Cond.arrayOver_spec (n := "PillarDesk$Tray") (args := #[Value.ref b]) (first := s) (o := none) (s := s) (idx := []) oT
  have oP := hts (.arrayOver (.object "PillarDesk$Plan")) (List.mem_of_getElem? (i := 364) (by decide +kernel))
  obtain ⟨mP, aP, kP, gP1, -, gP2, gP3, gP4⟩ := Cond.arrayOver_spec (n := "PillarDesk$Plan") (args := #[Value.ref b]) (first := s) (o := none) (s := s) (idx := []) oP
  have hstr : ∀ i : Nat, ∃ q : Nat × Nat, i < 30 → (zE_tm i).eval #[Value.ref b] s none [] s = some (.ref q.1) ∧ va_O "java/lang/String" q.1 (fun q : Nat => s.heap.size ≤ q) s s.heap ∧ va_OF "java/lang/String" "coder" "B" (.int 0) q.1 (fun q : Nat => s.heap.size ≤ q) s s.heap ∧ va_OF "java/lang/String" "value" "[B" (.ref q.2) q.1 (fun q : Nat => s.heap.size ≤ q) s s.heap ∧ va_T .byte q.2 (zz_sl i) (fun j => .int (zz_sb i j)) (fun q : Nat => s.heap.size ≤ q) s s.heap := by
    intro i
    by_cases hi : i < 30
    · obtain ⟨k, v, h⟩ := zE_str (byt := zz_sb i) (A := fun q : Nat => s.heap.size ≤ q) (zE_sl i hi) (hs _ (zE_ex i hi)) (hs _ (zE_co i hi)) (hs _ (zE_ar i hi)) (hs _ (zE_le i hi)) (fun j hj => hs _ (zE_el i hi j hj)) hA
      exact ⟨(k, v), fun _ => h⟩
    · exact ⟨(0, 0), fun h => absurd h hi⟩
  obtain ⟨ad, had⟩ := Classical.axiomOfChoice hstr
  refine ⟨((fun k => [c0, c1, c2, c3, c4, c5, c6, c7, c8, c9, c10, c11, c12].getD k c0, fun k => [i0, i1, i2, i3, i4, i5, i6, i7, i8, i9, i10, i11, i12].getD k i0), fun k => [aI, aJ, aB, aZ, aS, aT, aP].getD k aI, fun _ => 0, fun i => (ad i).1, fun i => (ad i).2, fun q => s.heap.size ≤ q, 0), ⟨⟨?_, ?_⟩, ⟨fun i hi => (had i hi).2, ?_, ?_⟩, ?_, ?_, ?_, fun q h => h⟩, fun q => Iff.rfl⟩
  · intro c q hq
    match c, hq with
    | 0, hq => cases hq; exact K0
    | 1, hq => cases hq; exact K1
    | 2, hq => cases hq; exact K2
    | 3, hq => cases hq; exact K3
    | 4, hq => cases hq; exact K4
    | 5, hq => cases hq; exact K5
    | 6, hq => cases hq; exact K6
    | 7, hq => cases hq; exact K7
    | 8, hq => cases hq; exact K8
    | 9, hq => cases hq; exact K9
    | 10, hq => cases hq; exact K10
    | 11, hq => cases hq; exact K11
    | 12, hq => cases hq; exact K12
    | c + 13, hq => exact absurd hq (by simp [zz_cl])
  · intro k q hq
    match k, hq with
    | 0, hq => cases hq; exact ⟨fun n z => ⟨fun k h => (by cases h), kI, fI2, mI, fI3⟩, fI1⟩
    | 1, hq => cases hq; exact ⟨fun n z => ⟨fun k h => (by cases h), kJ, fJ2, mJ, fJ3⟩, fJ1⟩
    | 2, hq => cases hq; exact ⟨fun n z => ⟨fun k h => (by cases h), kB, fB2, mB, fB3⟩, fB1⟩
    | 3, hq => cases hq; exact ⟨fun n z => ⟨fun k h => (by cases h), kZ, fZ2, mZ, fZ3⟩, fZ1⟩
    | 4, hq => cases hq; exact ⟨fun n z => ⟨fun k h => (by cases h), kS, gS2, mS, gS3⟩, ⟨kS, mS, gS2, gS3, gS1, gS4⟩⟩
    | 5, hq => cases hq; exact ⟨fun n z => ⟨fun k h => (by cases h), kT, gT2, mT, gT3⟩, ⟨kT, mT, gT2, gT3, gT1, gT4⟩⟩
    | 6, hq => cases hq; exact ⟨fun n z => ⟨fun k h => (by cases h), kP, gP2, mP, gP3⟩, ⟨kP, mP, gP2, gP3, gP1, gP4⟩⟩
    | k + 7, hq => exact absurd hq (by simp [zz_tys])
  · exact va_Zof (hts (.laysStatic "java/lang/String" "COMPACT_STRINGS" "Z") (List.mem_of_getElem? (i := 766) (by decide +kernel))) (hts (.initialized "java/lang/String") (List.mem_of_getElem? (i := 144) (by decide +kernel))) (va_eqi (hs _ zE_cmp)) hA
  · exact va_Zqof (hts (.laysStatic "jdk/internal/util/Preconditions" "SIOOBE_FORMATTER" "Ljava/util/function/BiFunction;") (List.mem_of_getElem? (i := 805) (by decide +kernel))) (hts (.initialized "jdk/internal/util/Preconditions") (List.mem_of_getElem? (i := 147) (by decide +kernel))) (hs _ zE_fmt) hA
  · intro q hq
    obtain ⟨h30, h⟩ := zE_ldt q hq
    refine vk_R.of (A := #[Value.ref b]) (hts _ (zE_ld q hq)) ?_
    rcases h with h | ⟨h1, h2, h3⟩
    · rw [h]; exact (had _ h30).1
    · rw [h1, h2, h3]
      rcases zE_same with e | e
      · exact va_eqv (hs _ e) (had 0 (by decide)).1
      · exact va_eqR (hs _ e) (had 0 (by decide)).1
  · intro q hq
    exact va_Nw.of rfl (hts _ (zE_ns q hq))
  · intro C hC
    simp only [List.mem_cons, List.not_mem_nil, or_false] at hC
    rcases hC with rfl | rfl | rfl
    · exact va_AO.of oS
    · exact va_AO.of oT
    · exact va_AO.of oP
