/-! ===== the law, from its entry ===== -/
theorem okL_X11_init : zz_ok mX11_init 0 := ⟨(zz_mem 154 (by decide +kernel) rfl), (zz_mem 129 (by decide +kernel) rfl), ⟨by decide +kernel, by decide +kernel, by decide +kernel⟩, (Nat.le_of_ble_eq_true rfl)⟩
theorem liL_9 : zA_LI R_law 9 mX11_init 0 := ⟨(zz_mem 152 (by decide +kernel) rfl), okL_X11_init, by decide, (zz_mem 153 (by decide +kernel) rfl), rfl⟩
theorem okL_X12_init : zz_ok mX12_init 0 := ⟨(zz_mem 1481 (by decide +kernel) rfl), (zz_mem 143 (by decide +kernel) rfl), ⟨by decide +kernel, by decide +kernel, by decide +kernel⟩, (Nat.le_of_ble_eq_true rfl)⟩
theorem liL_12 : zA_LI R_law 12 mX12_init 0 := ⟨(zz_mem 1479 (by decide +kernel) rfl), okL_X12_init, by decide, (zz_mem 1480 (by decide +kernel) rfl), rfl⟩
theorem zW_ctor {p : Program} {l : Launch} {e : Env} {s : State} {m : MethodId} {below : List Frame} {meth : Method} {c : Code} {args : Array Value} {E : zz_G} {Q : State → Prop} (hx : p.tables.exec = Jvm.exec) (hb : c.code = code) (hml : c.maxLocals = 4) (hown : s.vm.findClass R_law = some m.cls) (hts : ∀ w ∈ lw_tbl, w.before args s = true) (hE : zA_Env E s)
    {wr : va_W} {q1 idx : Nat} {ee : va_E} {M' : zz_M} {d' mc' ms' cs sl pc : Nat} {B' : va_W → Prop} (hcon : zA_Con l E M' d' mc' ms' [.ref q1] [(q1, ee)] B' none) (L : zA_LI R_law idx M' 0) {H : Heap} {locs : List Loc} {ls : Array Slot} {rest : List Value} (hP : va_P (zz_D E) zz_cl (wr ++ [(q1, ee)]) H) (hD : va_D (zz_A E) (wr ++ [(q1, ee)])) (hS : va_S (zz_A E) s.heap H locs) (hsz : ls.size = 4) (hd : decode code pc = .ok (.invokespecial idx, 3)) (hdd : d' + 1 ≤ 2048) (hW0 : (rest.map fun v => v.category).sum ≤ 8) (hc : cs + mc' ≤ 600000) (hs : sl + ms' ≤ 7302250)
    (k : ∀ (ws' : va_W) (H1 : Heap) (locs1 : List Loc), B' ws' → va_P (zz_D E) zz_cl (wr ++ ws') H1 → va_D (zz_A E) (wr ++ ws') → va_S (zz_A E) s.heap H1 locs1 → W p l e room_1 s m args below meth c H1 locs1 (cs + mc') (sl + ms') Q (F0 m (pc + 3) ls rest)) : W p l e room_1 s m args below meth c H locs cs sl Q (F0 m pc ls (.ref q1 :: rest)) := by
  obtain ⟨L1, L2, L3, L4, L5⟩ := L
  have hM := hcon H.size
  have hws : zz_ws M' = Cond.code M'.1 M'.2.1 M'.2.2.1 none :: zz_tbl := by unfold zz_ws; rw [L5]
  have hb1 : (wr ++ [(q1, ee)])[wr.length]? = some (q1, ee) := by simp
  have hbA : zz_A E q1 := hD.2 _ _ hb1
  have hF : ∀ q, va_A [(q1, ee)] H.size q → zz_A E q := by
    intro q hq
    rcases hq with ⟨k2, e2, h2⟩ | h2
    · have h3 : (q1, ee) = (q, e2) := by
        cases k2 with
        | zero => exact Option.some.inj h2
        | succ k3 => simp at h2
      cases h3
      exact hbA
    · exact hE.2.2.2.2.2 q (Nat.le_trans hS.1 h2)
  have hPb : va_P (zz_D E) zz_cl [(q1, ee)] H := by
    intro k2 q2 h2
    cases k2 with
    | zero =>
      obtain rfl := Option.some.inj h2
      exact hP _ _ hb1
    | succ k3 => simp at h2
  have hDb : va_D (zz_A E) [(q1, ee)] := by
    refine ⟨fun i j p1 q1 h1 h2 _ => ?_, fun k2 q2 h2 => ?_⟩
    · have h3 := (List.getElem?_eq_some_iff.mp h1).1
      have h4 := (List.getElem?_eq_some_iff.mp h2).1
      simp at h3 h4
      omega
    · cases k2 with
      | zero =>
        obtain rfl := Option.some.inj h2
        exact hbA
      | succ k3 => simp at h2
  intro T hT X
  have hlo : 8 + (M'.2.2.1 + 11) + 40 * d' ≤ 84000 := by
    have := L2.2.2.2
    omega
  have hr := va_runI (R := room_1) (p := p) (e := e) (below := below) (meth := meth) (H := H) (locs := locs) (cells := cs) (slots := sl) (Ts := lw_tbl) (As := []) (rest := rest) (g := F0 m pc ls (.ref q1 :: rest)) ⟨hx, hb, hml, hown, hts⟩ hM ⟨callB_of (bytes := M'.2.1) (maxL := M'.2.2.1) (ret := none) 0 hts (zL_goodIn L2.1) hws rfl rfl (hts _ (zL_in L2.2.1)) (hts _ (zL_in L1)) L2.2.2.1 ⟨hdd, hlo⟩, L3, hts _ (zL_in L4)⟩ ⟨zA_blind _, fun U hU hWm => ⟨rfl, by rw [hU], zL_warmA hE hWm (locs := locs) (by rw [hU]; exact hS), by rw [hU]; exact hPb, hDb⟩⟩ rfl rfl hsz rfl (lv_room hW0) hd ⟨hc, hs⟩ T hT X
  obtain ⟨v1, st₀, t, T', L', h0, X', hL, e1, e2, ⟨hv, ⟨ws', hB', hP1, hD1⟩, hz, hk⟩, st⟩ := hr
  cases hv
  rw [h0] at hz hk
  obtain ⟨hPj, hDj⟩ := zA_join hP hD hF (fun q h1 h2 => hk q h1 h2) hP1 hD1
  obtain ⟨t2, a1, b1⟩ := k ws' T'.heap (locs ++ L') hB' (by rw [e1]; exact hPj) hDj
    ⟨Nat.le_trans hS.1 (by rw [e1]; exact hz), fun q h1 h2 => by rw [e1, hk q (Nat.lt_of_lt_of_le h1 hS.1) (fun z => h2 (hF q z))]; exact hS.2.1 q h1 h2, fun q hq => by
      rcases List.mem_append.mp hq with h | h
      · exact hS.2.2 q h
      · exact hF _ (hL q h)⟩ T' rfl X'
  exact ⟨t2, st t2 a1, b1⟩
theorem zS_defX11 : ∀ j, j < 20 → defaultValue (tyX11 j) = vp_V [.null, .int 0, .int 0, .int 0, .null, .null, .null, .null, .null, .null, .null, .null, .null, .null, .null, .null, .null, .null, .int 0, .int 0] j := fun j hj => match j, hj with
  | 0, _ => rfl
  | 1, _ => rfl
  | 2, _ => rfl
  | 3, _ => rfl
  | 4, _ => rfl
  | 5, _ => rfl
  | 6, _ => rfl
  | 7, _ => rfl
  | 8, _ => rfl
  | 9, _ => rfl
  | 10, _ => rfl
  | 11, _ => rfl
  | 12, _ => rfl
  | 13, _ => rfl
  | 14, _ => rfl
  | 15, _ => rfl
  | 16, _ => rfl
  | 17, _ => rfl
  | 18, _ => rfl
  | 19, _ => rfl
  | j + 20, h => absurd h (by omega)
theorem zS_defX12 : ∀ j, j < 42 → defaultValue (tyX12 j) = vp_V [.int 0, .null, .null, .null, .null, .int 0, .int 0, .int 0, .int 0, .int 0, .int 0, .int 0, .int 0, .int 0, .int 0, .int 0, .null, .null, .null, .null, .null, .null, .null, .null, .null, .null, .null, .null, .int 0, .null, .int 0, .int 0, .null, .null, .null, .null, .null, .long 0, .long 0, .null, .null, .null] j := fun j hj => match j, hj with
  | 0, _ => rfl
  | 1, _ => rfl
  | 2, _ => rfl
  | 3, _ => rfl
  | 4, _ => rfl
  | 5, _ => rfl
  | 6, _ => rfl
  | 7, _ => rfl
  | 8, _ => rfl
  | 9, _ => rfl
  | 10, _ => rfl
  | 11, _ => rfl
  | 12, _ => rfl
  | 13, _ => rfl
  | 14, _ => rfl
  | 15, _ => rfl
  | 16, _ => rfl
  | 17, _ => rfl
  | 18, _ => rfl
  | 19, _ => rfl
  | 20, _ => rfl
  | 21, _ => rfl
  | 22, _ => rfl
  | 23, _ => rfl
  | 24, _ => rfl
  | 25, _ => rfl
  | 26, _ => rfl
  | 27, _ => rfl
  | 28, _ => rfl
  | 29, _ => rfl
  | 30, _ => rfl
  | 31, _ => rfl
  | 32, _ => rfl
  | 33, _ => rfl
  | 34, _ => rfl
  | 35, _ => rfl
  | 36, _ => rfl
  | 37, _ => rfl
  | 38, _ => rfl
  | 39, _ => rfl
  | 40, _ => rfl
  | 41, _ => rfl
  | j + 42, h => absurd h (by omega)
theorem zS_start {p : Program} {e : Env} {s : State} {m : MethodId} {below : List Frame} {meth : Method} {c : Code} (l : Launch) {b L : Nat} {xs : Nat → Int32} {PI : zL_P} {m1 n0 n1 : zz_Mem} (hops : zL_ops PI) (hlay : f_X8_lay zz_mem0C = some m1) (hpl : f_X12_plain 1 3531 zz_mem0M = some n0) (hld : f_X12_laysDays n0 = some n1) (hPI : PI 107 m1 n1) (hL : L ≤ 3072) (C0 : lw_At p s m meth c b L xs) : W p l e room_1 s m #[Value.ref b] below meth c s.heap [] 0 0 (lw_Z below #[Value.ref b] s) (entryFrame m ([Value.ref b] : List Value).toArray 4) := by
  obtain ⟨hx, hb, hr, hml, hown, hts, hX, hbl, hlocks, hgv⟩ := id C0
  obtain ⟨E, hE, hEA⟩ := zE_env hts hgv
  have hAll : ∀ q, s.heap.size ≤ q → zz_A E q := hE.2.2.2.2.2
  have hS : va_S (zz_A E) s.heap s.heap [] := va_S.rf
  have hP : va_P (zz_D E) zz_cl [] s.heap := fun k q h => by simp at h
  have hD : va_D (zz_A E) [] := ⟨fun i j p q h => by simp at h, fun k q h => by simp at h⟩
  have hl := lv_entry ([.ref b]) (n := 4) (Nat.le_of_ble_eq_true rfl)
  rw [lg_entry_eq]
  generalize (lg_sl ([.ref b]) ++ List.replicate (4 - (lg_sl ([.ref b])).length) Slot.unset).toArray = ls at hl ⊢
  have hl : lv_has ls 4 [(0, .ref b)] := hl
  refine va_new (ci := 11) (fs := [.null, .int 0, .int 0, .int 0, .null, .null, .null, .null, .null, .null, .null, .null, .null, .null, .null, .null, .null, .null, .int 0, .int 0]) (C := RX11) (T := TX11) (N := 20) (own := R_law) hx hb hts (fun w h => zL_in (inX11 w h)) tyX11 tyX11_ok hown (hts _ (zL_in (zz_mem 150 (by decide +kernel) rfl))) (hts _ (zL_in (zz_mem 151 (by decide +kernel) rfl))) (hts _ (zL_in (zz_mem 129 (by decide +kernel) rfl))) hE.1 hP hD hS hAll rfl (zS_defX11) (Nat.le_of_ble_eq_true rfl) (Nat.le_of_ble_eq_true rfl) dL_0 (fun q1 H hP hD hS => ?_)
  refine lv_dup hx hb dL_3 rfl ?_
  refine zW_ctor (wr := []) hx hb hml hown hts hE (c_X11_init hlay q1) liL_9 hP hD hS hl.1 dL_4 (Nat.le_of_ble_eq_true rfl) (Nat.le_of_ble_eq_true rfl) (Nat.le_of_ble_eq_true rfl) (Nat.le_of_ble_eq_true rfl) (fun ws1 H locs hB hP hD hS => ?_)
  obtain ⟨a, ha0, rfl⟩ := hB
  have hP : va_P (zz_D E) zz_cl (zz_wd zz_sh (zA_G E a 107 zA_T) m1) H := hP
  have hD : va_D (zz_A E) (zz_wd zz_sh (zA_G E a 107 zA_T) m1) := hD
  refine lv_astore_n (lv' := [(1, .ref q1), (0, .ref b)]) hx hb dL_7 rfl hl (by decide) rfl (fun ls hl => ?_)
  refine va_new (ci := 12) (fs := [.int 0, .null, .null, .null, .null, .int 0, .int 0, .int 0, .int 0, .int 0, .int 0, .int 0, .int 0, .int 0, .int 0, .int 0, .null, .null, .null, .null, .null, .null, .null, .null, .null, .null, .null, .null, .int 0, .null, .int 0, .int 0, .null, .null, .null, .null, .null, .long 0, .long 0, .null, .null, .null]) (C := RX12) (T := TX12) (N := 42) (own := R_law) hx hb hts (fun w h => zL_in (inX12 w h)) tyX12 tyX12_ok hown (hts _ (zL_in (zz_mem 1477 (by decide +kernel) rfl))) (hts _ (zL_in (zz_mem 1478 (by decide +kernel) rfl))) (hts _ (zL_in (zz_mem 143 (by decide +kernel) rfl))) hE.1 hP hD hS hAll rfl (zS_defX12) (Nat.le_of_ble_eq_true rfl) (Nat.le_of_ble_eq_true rfl) dL_8 (fun q2 H hP hD hS => ?_)
  refine lv_dup hx hb dL_11 rfl ?_
  refine zW_ctor (wr := zz_wd zz_sh (zA_G E a 107 zA_T) m1) hx hb hml hown hts hE (c_X12_init hpl hld q2) liL_12 hP hD hS hl.1 dL_12 (Nat.le_of_ble_eq_true rfl) (Nat.le_of_ble_eq_true rfl) (Nat.le_of_ble_eq_true rfl) (Nat.le_of_ble_eq_true rfl) (fun ws1 H locs hB hP hD hS => ?_)
  obtain ⟨a2, ha2, rfl⟩ := hB
  refine lv_astore_n (lv' := [(2, .ref q2), (1, .ref q1), (0, .ref b)]) hx hb dL_15 rfl hl (by decide) rfl (fun ls hl => ?_)
  refine lv_iconst (v := 0) hx hb dL_16 (by decide) ?_
  refine lv_istore_n (lv' := [(3, .int 0), (2, .ref q2), (1, .ref q1), (0, .ref b)]) hx hb dL_17 rfl hl (by decide) rfl (fun ls hl => ?_)
  have hlen1 : (zz_wd zz_sh (zA_G E a 107 zA_T) m1).length = 107 := by simp [zz_wd, zA_G, zz_N]
  have at1 : ∀ k, k < 107 → (zz_wd zz_sh (zA_G E a 107 zA_T) m1 ++ zz_wd zz_shM (zA_G E a2 26 zA_T) n1)[k]? = some (a k, zz_encS (zA_G E a 107 zA_T) m1 k (zz_sh k)) := by
    intro k hk
    rw [List.getElem?_append_left (by rw [hlen1]; exact hk), zz_wd_at (G := zA_G E a 107 zA_T) hk]
    rfl
  have at2 : ∀ k, k < 26 → (zz_wd zz_sh (zA_G E a 107 zA_T) m1 ++ zz_wd zz_shM (zA_G E a2 26 zA_T) n1)[107 + k]? = some (a2 k, zz_encS (zA_G E a2 26 zA_T) n1 k (zz_shM k)) := by
    intro k hk
    rw [List.getElem?_append_right (by rw [hlen1]; omega), hlen1, show 107 + k - 107 = k by omega, zz_wd_at (G := zA_G E a2 26 zA_T) hk]
    rfl
  have hap : ∀ i j, i < 107 → j < 26 → a i ≠ a2 j := by
    intro i j hi hj he
    have h := hD.1 i (107 + j) _ _ (at1 i hi) (at2 j hj) he
    omega
  obtain ⟨A1, hA1⟩ : ∃ A1 : Nat → Prop, A1 = fun q => (∃ k, k < 107 ∧ q = a k) ∨ H.size ≤ q := ⟨_, rfl⟩
  obtain ⟨A2, hA2⟩ : ∃ A2 : Nat → Prop, A2 = fun q => ∃ k, k < 26 ∧ q = a2 k := ⟨_, rfl⟩
  have lt2 : ∀ k, k < 26 → a2 k < H.size := fun k hk => (hP _ _ (at2 k hk)).lt
  have inE1 : ∀ q, A1 q → zz_A E q := by
    intro q hq
    rw [hA1] at hq
    rcases hq with ⟨k, hk, rfl⟩ | h
    · exact hD.2 _ _ (at1 k hk)
    · exact hAll q (Nat.le_trans hS.1 h)
  have inE2 : ∀ q, A2 q → zz_A E q := by
    intro q hq
    rw [hA2] at hq
    obtain ⟨k, hk, rfl⟩ := hq
    exact hD.2 _ _ (at2 k hk)
  have haD1 : zz_aD (zA_G E a 107 A1) := ⟨fun i j hi hj he => hD.1 i j _ _ (at1 i hi) (at1 j hj) he, fun k hk => by show A1 (a k); rw [hA1]; exact Or.inl ⟨k, hk, rfl⟩⟩
  have haD2 : zz_aD (zA_G E a2 26 A2) := ⟨fun i j hi hj he => by have h := hD.1 (107 + i) (107 + j) _ _ (at2 i hi) (at2 j hj) he; omega, fun k hk => by show A2 (a2 k); rw [hA2]; exact ⟨k, hk, rfl⟩⟩
  have hno : ∀ k, k < 26 → ¬ A1 (a2 k) := by
    intro k hk hq
    rw [hA1] at hq
    rcases hq with ⟨i, hi, h⟩ | h
    · exact hap i k hi hk h.symm
    · exact absurd (lt2 k hk) (Nat.not_lt.mpr h)
  have hPc : va_P (zz_D E) zz_cl (zz_wd zz_sh (zA_G E a 107 A1) m1) H := fun k q h => by
    obtain ⟨h1, rfl⟩ := zz_wd_inv h
    exact hP k _ (at1 k h1)
  have hPm : va_P (zz_D E) zz_cl (zz_wd zz_shM (zA_G E a2 26 A2) n1) H := fun k q h => by
    obtain ⟨h1, rfl⟩ := zz_wd_inv h
    exact hP (107 + k) _ (at2 k h1)
  have hloop := zL_loop (l := l) (E := E) (b := b) (xs := xs) (A1 := A1) (A2 := A2) (a2 := a2) (h1 := q1) hops hL 513 0 107 m1 n1 (by omega) (by omega) hPI
  refine W.widen (k := 200 + 14 * 0) (n := 20000 + 1066 * 0) (Nat.le_of_ble_eq_true rfl) (Nat.le_of_ble_eq_true rfl) ?_
  refine hloop p e s m below meth c ⟨hx, hb, hr, hml, hown, hts, hlocks, hX, hbl, hE, inE1, inE2, haD2, hno, hEA⟩ H locs ls ⟨a, ha0, hPc, haD1, hPm, ?_, ?_⟩ hS ?_
  · intro k hk hq
    rw [hA2] at hq
    obtain ⟨j, hj, h⟩ := hq
    exact hap k j hk hj h
  · intro q hq
    refine ⟨by rw [hA1]; exact Or.inr hq, ?_⟩
    rw [hA2]
    rintro ⟨k, hk, rfl⟩
    exact absurd (lt2 k hk) (Nat.not_lt.mpr hq)
  · rw [ha2]
    exact lv_sub hl [3, 2, 1, 0] rfl
