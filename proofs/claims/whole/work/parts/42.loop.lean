/-! ===== the law: its loop ===== -/
theorem zL_cnt {l : Launch} {E : zz_G} {b L : Nat} {xs : Nat → Int32} {A1 A2 : Nat → Prop} {a2 : Nat → Nat} {h1 cs sl cs2 sl2 pc n : Nat} {lv : List (Nat × Value)} {st : List Value} {μ ν : zz_Mem} (h : cs = cs2) (h2 : sl = sl2) (k : zL l E b L xs A1 A2 a2 h1 cs2 sl2 pc lv st n μ ν) : zL l E b L xs A1 A2 a2 h1 cs sl pc lv st n μ ν := by subst h; subst h2; exact k
theorem zL_six {L j : Nat} (hL : L ≤ 3072) (hj : j ≤ 513) : (nI L - 6).toInt = (L : Int) - 6 ∧ (nI (6 * j)).toInt = ((6 * j : Nat) : Int) := by
  refine ⟨?_, nI_toInt (by omega)⟩
  have h6 : (6 : Int32) = nI 6 := rfl
  rw [h6, pk_sub_toInt (by omega) (by omega)]
  rfl
theorem zL_ix {L i k : Nat} {kk : Int32} (hk : kk = nI k) (h : i + k < L) (hL : L ≤ 3072) : vp_in (nI i + kk) L := by
  rw [hk, nI_add]
  exact vp_in_nI h (by omega)
set_option maxHeartbeats 4000000 in
theorem zL_loop {l : Launch} {E : zz_G} {b L : Nat} {xs : Nat → Int32} {A1 A2 : Nat → Prop} {a2 : Nat → Nat} {h1 : Nat} {PI : zL_P} (hops : zL_ops PI) (hL : L ≤ 3072) : ∀ (k j n : Nat) (μ ν : zz_Mem), j ≤ 512 → 512 - j < k → PI n μ ν → zL l E b L xs A1 A2 a2 h1 (200 + 14 * j) (20000 + 1066 * j) 18 [(0, .ref b), (1, .ref h1), (2, .ref (a2 0)), (3, .int (nI (6 * j)))] [] n μ ν := by
  intro k
  induction k with
  | zero =>
    intro j n μ ν h1 h2
    exact absurd h2 (by omega)
  | succ k ih =>
    intro j n μ ν hj hjk hPI
    have hsix := zL_six hL (show j ≤ 513 by omega)
    refine zL_iload_n dL_18 rfl 3 rfl ?_
    refine zL_aload_n dL_19 rfl 0 rfl ?_
    refine zL_slen dL_20 ?_
    refine zL_bipush (v := (6 : Int32)) dL_21 (by decide) ?_
    refine zL_isub dL_23 ?_
    by_cases h : 6 * j + 6 ≤ L
    · have hgt : ¬ (nI L - 6 < nI (6 * j)) := by
        intro z
        have z2 := Int32.lt_iff_toInt_lt.mp z
        rw [hsix.1, hsix.2] at z2
        omega
      refine zL_gtF (tgt := 1504) dL_24 (by decide) hgt ?_
      refine zL_aload_n dL_27 rfl 0 rfl ?_
      refine zL_iload_n dL_28 rfl 3 rfl ?_
      refine zL_sld dL_29 (vp_in_nI (by omega) (by omega)) ?_
      refine zL_bipush (v := (63 : Int32)) dL_30 (by decide) ?_
      refine zL_iand dL_32 ?_
      generalize xs (nI (6 * j)).toNatClampNeg &&& 63 = x
      have hv1 : vp_in (nI (6 * j) + 1) L := zL_ix (k := 1) rfl (by omega) hL
      have hv2 : vp_in (nI (6 * j) + 2) L := zL_ix (k := 2) rfl (by omega) hL
      have hv3 : vp_in (nI (6 * j) + 3) L := zL_ix (k := 3) rfl (by omega) hL
      have hv4 : vp_in (nI (6 * j) + 4) L := zL_ix (k := 4) rfl (by omega) hL
      have hv5 : vp_in (nI (6 * j) + 5) L := zL_ix (k := 5) rfl (by omega) hL
      have hc : 200 + 14 * j + 14 ≤ 600000 := by omega
      have hs : 20000 + 1066 * j + 1066 ≤ 7302250 := by omega
      have hrf := hops.1
      have K : ∀ n' μ' ν', PI n' μ' ν' → zL l E b L xs A1 A2 a2 h1 (200 + 14 * j + 14) (20000 + 1066 * j + 1066) 1498 [(0, .ref b), (1, .ref h1), (2, .ref (a2 0)), (3, .int (nI (6 * j)))] [] n' μ' ν' := by
        intro n' μ' ν' hP'
        refine zL_iinc (v := nI (6 * (j + 1))) [(3, .int (nI (6 * (j + 1)))), (0, .ref b), (1, .ref h1), (2, .ref (a2 0))] dL_1498 3 rfl (by show nI (6 * j) + nI 6 = _; rw [nI_add]; rfl) (Nat.le_of_ble_eq_true rfl) rfl ?_
        refine zL_goto (tgt := 18) dL_1501 (by decide) ?_
        refine zL_sub [1, 2, 3, 0] rfl ?_
        refine zL_cnt (by omega) (by omega) (ih (j + 1) n' μ' ν' (by omega) (by omega) hP')
      by_cases h0 : x = (0 : Int32)
      · refine zL_tswI (tgt := 220) h0 dL_33 (by decide) (by decide) rfl (by decide) ?_
        exact zL_case0 (hops.2.1) hrf hc hs hv1 hv2 hv3 hv4 hv5 hPI K
      by_cases h1 : x = (1 : Int32)
      · refine zL_tswI (tgt := 283) h1 dL_33 (by decide) (by decide) rfl (by decide) ?_
        exact zL_case1 (hops.2.2.1) hrf hc hs hv1 hv2 hv3 hv4 hv5 hPI K
      by_cases h2 : x = (2 : Int32)
      · refine zL_tswI (tgt := 306) h2 dL_33 (by decide) (by decide) rfl (by decide) ?_
        exact zL_case2 (hops.2.2.2.1) hrf hc hs hv1 hv2 hv3 hv4 hv5 hPI K
      by_cases h3 : x = (3 : Int32)
      · refine zL_tswI (tgt := 329) h3 dL_33 (by decide) (by decide) rfl (by decide) ?_
        exact zL_case3 (hops.2.2.2.2.1) hrf hc hs hv1 hv2 hv3 hv4 hv5 hPI K
      by_cases h4 : x = (4 : Int32)
      · refine zL_tswI (tgt := 362) h4 dL_33 (by decide) (by decide) rfl (by decide) ?_
        exact zL_case4 (hops.2.2.2.2.2.1) hrf hc hs hv1 hv2 hv3 hv4 hv5 hPI K
      by_cases h5 : x = (5 : Int32)
      · refine zL_tswI (tgt := 396) h5 dL_33 (by decide) (by decide) rfl (by decide) ?_
        exact zL_case5 (hops.2.2.2.2.2.2.1) hrf hc hs hv1 hv2 hv3 hv4 hv5 hPI K
      by_cases h6 : x = (6 : Int32)
      · refine zL_tswI (tgt := 419) h6 dL_33 (by decide) (by decide) rfl (by decide) ?_
        exact zL_case6 (hops.2.2.2.2.2.2.2.1) hrf hc hs hv1 hv2 hv3 hv4 hv5 hPI K
      by_cases h7 : x = (7 : Int32)
      · refine zL_tswI (tgt := 442) h7 dL_33 (by decide) (by decide) rfl (by decide) ?_
        exact zL_case7 (hops.2.2.2.2.2.2.2.2.1) hrf hc hs hv1 hv2 hv3 hv4 hv5 hPI K
      by_cases h8 : x = (8 : Int32)
      · refine zL_tswI (tgt := 475) h8 dL_33 (by decide) (by decide) rfl (by decide) ?_
        exact zL_case8 (hops.2.2.2.2.2.2.2.2.2.1) hrf hc hs hv1 hv2 hv3 hv4 hv5 hPI K
      by_cases h9 : x = (9 : Int32)
      · refine zL_tswI (tgt := 508) h9 dL_33 (by decide) (by decide) rfl (by decide) ?_
        exact zL_case9 (hops.2.2.2.2.2.2.2.2.2.2.1) hrf hc hs hv1 hv2 hv3 hv4 hv5 hPI K
      by_cases h10 : x = (10 : Int32)
      · refine zL_tswI (tgt := 541) h10 dL_33 (by decide) (by decide) rfl (by decide) ?_
        exact zL_case10 (hops.2.2.2.2.2.2.2.2.2.2.2.1) hrf hc hs hv1 hv2 hv3 hv4 hv5 hPI K
      by_cases h11 : x = (11 : Int32)
      · refine zL_tswI (tgt := 574) h11 dL_33 (by decide) (by decide) rfl (by decide) ?_
        exact zL_case11 (hops.2.2.2.2.2.2.2.2.2.2.2.2.1) hrf hc hs hv1 hv2 hv3 hv4 hv5 hPI K
      by_cases h12 : x = (12 : Int32)
      · refine zL_tswI (tgt := 597) h12 dL_33 (by decide) (by decide) rfl (by decide) ?_
        exact zL_case12 (hops.2.2.2.2.2.2.2.2.2.2.2.2.2.1) hrf hc hs hv1 hv2 hv3 hv4 hv5 hPI K
      by_cases h13 : x = (13 : Int32)
      · refine zL_tswI (tgt := 630) h13 dL_33 (by decide) (by decide) rfl (by decide) ?_
        exact zL_case13 (hops.2.2.2.2.2.2.2.2.2.2.2.2.2.2.1) hrf hc hs hv1 hv2 hv3 hv4 hv5 hPI K
      by_cases h14 : x = (14 : Int32)
      · refine zL_tswI (tgt := 653) h14 dL_33 (by decide) (by decide) rfl (by decide) ?_
        exact zL_case14 (hops.2.2.2.2.2.2.2.2.2.2.2.2.2.2.2.1) hrf hc hs hv1 hv2 hv3 hv4 hv5 hPI K
      by_cases h15 : x = (15 : Int32)
      · refine zL_tswI (tgt := 686) h15 dL_33 (by decide) (by decide) rfl (by decide) ?_
        exact zL_case15 (hops.2.2.2.2.2.2.2.2.2.2.2.2.2.2.2.2.1) hrf hc hs hv1 hv2 hv3 hv4 hv5 hPI K
      by_cases h16 : x = (16 : Int32)
      · refine zL_tswI (tgt := 709) h16 dL_33 (by decide) (by decide) rfl (by decide) ?_
        exact zL_case16 (hops.2.2.2.2.2.2.2.2.2.2.2.2.2.2.2.2.2.1) hrf hc hs hv1 hv2 hv3 hv4 hv5 hPI K
      by_cases h17 : x = (17 : Int32)
      · refine zL_tswI (tgt := 742) h17 dL_33 (by decide) (by decide) rfl (by decide) ?_
        exact zL_case17 (hops.2.2.2.2.2.2.2.2.2.2.2.2.2.2.2.2.2.2.1) hrf hc hs hv1 hv2 hv3 hv4 hv5 hPI K
      by_cases h18 : x = (18 : Int32)
      · refine zL_tswI (tgt := 755) h18 dL_33 (by decide) (by decide) rfl (by decide) ?_
        exact zL_case18 (hops.2.2.2.2.2.2.2.2.2.2.2.2.2.2.2.2.2.2.2.1) hrf hc hs hv1 hv2 hv3 hv4 hv5 hPI K
      by_cases h19 : x = (19 : Int32)
      · refine zL_tswI (tgt := 788) h19 dL_33 (by decide) (by decide) rfl (by decide) ?_
        exact zL_case19 (hops.2.2.2.2.2.2.2.2.2.2.2.2.2.2.2.2.2.2.2.2.1) hrf hc hs hv1 hv2 hv3 hv4 hv5 hPI K
      by_cases h20 : x = (20 : Int32)
      · refine zL_tswI (tgt := 811) h20 dL_33 (by decide) (by decide) rfl (by decide) ?_
        exact zL_case20 (hops.2.2.2.2.2.2.2.2.2.2.2.2.2.2.2.2.2.2.2.2.2.1) hrf hc hs hv1 hv2 hv3 hv4 hv5 hPI K
      by_cases h21 : x = (21 : Int32)
      · refine zL_tswI (tgt := 844) h21 dL_33 (by decide) (by decide) rfl (by decide) ?_
        exact zL_case21 (hops.2.2.2.2.2.2.2.2.2.2.2.2.2.2.2.2.2.2.2.2.2.2.1) hrf hc hs hv1 hv2 hv3 hv4 hv5 hPI K
      by_cases h22 : x = (22 : Int32)
      · refine zL_tswI (tgt := 867) h22 dL_33 (by decide) (by decide) rfl (by decide) ?_
        exact zL_case22 (hops.2.2.2.2.2.2.2.2.2.2.2.2.2.2.2.2.2.2.2.2.2.2.2.1) hrf hc hs hv1 hv2 hv3 hv4 hv5 hPI K
      by_cases h23 : x = (23 : Int32)
      · refine zL_tswI (tgt := 880) h23 dL_33 (by decide) (by decide) rfl (by decide) ?_
        exact zL_case23 (hops.2.2.2.2.2.2.2.2.2.2.2.2.2.2.2.2.2.2.2.2.2.2.2.2.1) hrf hc hs hv1 hv2 hv3 hv4 hv5 hPI K
      by_cases h24 : x = (24 : Int32)
      · refine zL_tswI (tgt := 913) h24 dL_33 (by decide) (by decide) rfl (by decide) ?_
        exact zL_case24 (hops.2.2.2.2.2.2.2.2.2.2.2.2.2.2.2.2.2.2.2.2.2.2.2.2.2.1) hrf hc hs hv1 hv2 hv3 hv4 hv5 hPI K
      by_cases h25 : x = (25 : Int32)
      · refine zL_tswI (tgt := 936) h25 dL_33 (by decide) (by decide) rfl (by decide) ?_
        exact zL_case25 (hops.2.2.2.2.2.2.2.2.2.2.2.2.2.2.2.2.2.2.2.2.2.2.2.2.2.2.1) hrf hc hs hv1 hv2 hv3 hv4 hv5 hPI K
      by_cases h26 : x = (26 : Int32)
      · refine zL_tswI (tgt := 950) h26 dL_33 (by decide) (by decide) rfl (by decide) ?_
        exact zL_case26 (hops.2.2.2.2.2.2.2.2.2.2.2.2.2.2.2.2.2.2.2.2.2.2.2.2.2.2.2.1) hrf hc hs hv1 hv2 hv3 hv4 hv5 hPI K
      by_cases h27 : x = (27 : Int32)
      · refine zL_tswI (tgt := 974) h27 dL_33 (by decide) (by decide) rfl (by decide) ?_
        exact zL_case27 (hops.2.2.2.2.2.2.2.2.2.2.2.2.2.2.2.2.2.2.2.2.2.2.2.2.2.2.2.2.1) hrf hc hs hv1 hv2 hv3 hv4 hv5 hPI K
      by_cases h28 : x = (28 : Int32)
      · refine zL_tswI (tgt := 1008) h28 dL_33 (by decide) (by decide) rfl (by decide) ?_
        exact zL_case28 (hops.2.2.2.2.2.2.2.2.2.2.2.2.2.2.2.2.2.2.2.2.2.2.2.2.2.2.2.2.2.1) hrf hc hs hv1 hv2 hv3 hv4 hv5 hPI K
      by_cases h29 : x = (29 : Int32)
      · refine zL_tswI (tgt := 1021) h29 dL_33 (by decide) (by decide) rfl (by decide) ?_
        exact zL_case29 (hops.2.2.2.2.2.2.2.2.2.2.2.2.2.2.2.2.2.2.2.2.2.2.2.2.2.2.2.2.2.2.1) hrf hc hs hv1 hv2 hv3 hv4 hv5 hPI K
      by_cases h30 : x = (30 : Int32)
      · refine zL_tswI (tgt := 1044) h30 dL_33 (by decide) (by decide) rfl (by decide) ?_
        exact zL_case30 (hops.2.2.2.2.2.2.2.2.2.2.2.2.2.2.2.2.2.2.2.2.2.2.2.2.2.2.2.2.2.2.2.1) hrf hc hs hv1 hv2 hv3 hv4 hv5 hPI K
      by_cases h31 : x = (31 : Int32)
      · refine zL_tswI (tgt := 1068) h31 dL_33 (by decide) (by decide) rfl (by decide) ?_
        exact zL_case31 (hops.2.2.2.2.2.2.2.2.2.2.2.2.2.2.2.2.2.2.2.2.2.2.2.2.2.2.2.2.2.2.2.2.1) hrf hc hs hv1 hv2 hv3 hv4 hv5 hPI K
      by_cases h32 : x = (32 : Int32)
      · refine zL_tswI (tgt := 1092) h32 dL_33 (by decide) (by decide) rfl (by decide) ?_
        exact zL_case32 (hops.2.2.2.2.2.2.2.2.2.2.2.2.2.2.2.2.2.2.2.2.2.2.2.2.2.2.2.2.2.2.2.2.2.1) hrf hc hs hv1 hv2 hv3 hv4 hv5 hPI K
      by_cases h33 : x = (33 : Int32)
      · refine zL_tswI (tgt := 1116) h33 dL_33 (by decide) (by decide) rfl (by decide) ?_
        exact zL_case33 (hops.2.2.2.2.2.2.2.2.2.2.2.2.2.2.2.2.2.2.2.2.2.2.2.2.2.2.2.2.2.2.2.2.2.2.1) hrf hc hs hv1 hv2 hv3 hv4 hv5 hPI K
      by_cases h34 : x = (34 : Int32)
      · refine zL_tswI (tgt := 1139) h34 dL_33 (by decide) (by decide) rfl (by decide) ?_
        exact zL_case34 (hops.2.2.2.2.2.2.2.2.2.2.2.2.2.2.2.2.2.2.2.2.2.2.2.2.2.2.2.2.2.2.2.2.2.2.2.1) hrf hc hs hv1 hv2 hv3 hv4 hv5 hPI K
      by_cases h35 : x = (35 : Int32)
      · refine zL_tswI (tgt := 1162) h35 dL_33 (by decide) (by decide) rfl (by decide) ?_
        exact zL_case35 (hops.2.2.2.2.2.2.2.2.2.2.2.2.2.2.2.2.2.2.2.2.2.2.2.2.2.2.2.2.2.2.2.2.2.2.2.2.1) hrf hc hs hv1 hv2 hv3 hv4 hv5 hPI K
      by_cases h36 : x = (36 : Int32)
      · refine zL_tswI (tgt := 1245) h36 dL_33 (by decide) (by decide) rfl (by decide) ?_
        exact zL_case36 (hops.2.2.2.2.2.2.2.2.2.2.2.2.2.2.2.2.2.2.2.2.2.2.2.2.2.2.2.2.2.2.2.2.2.2.2.2.2.1) hrf hc hs hv1 hv2 hv3 hv4 hv5 hPI K
      by_cases h37 : x = (37 : Int32)
      · refine zL_tswI (tgt := 1289) h37 dL_33 (by decide) (by decide) rfl (by decide) ?_
        exact zL_case37 (hops.2.2.2.2.2.2.2.2.2.2.2.2.2.2.2.2.2.2.2.2.2.2.2.2.2.2.2.2.2.2.2.2.2.2.2.2.2.2.1) hrf hc hs hv1 hv2 hv3 hv4 hv5 hPI K
      by_cases h38 : x = (38 : Int32)
      · refine zL_tswI (tgt := 1332) h38 dL_33 (by decide) (by decide) rfl (by decide) ?_
        exact zL_case38 (hops.2.2.2.2.2.2.2.2.2.2.2.2.2.2.2.2.2.2.2.2.2.2.2.2.2.2.2.2.2.2.2.2.2.2.2.2.2.2.2.1) hrf hc hs hv1 hv2 hv3 hv4 hv5 hPI K
      by_cases h39 : x = (39 : Int32)
      · refine zL_tswI (tgt := 1406) h39 dL_33 (by decide) (by decide) rfl (by decide) ?_
        exact zL_case39 (hops.2.2.2.2.2.2.2.2.2.2.2.2.2.2.2.2.2.2.2.2.2.2.2.2.2.2.2.2.2.2.2.2.2.2.2.2.2.2.2.2.1) hrf hc hs hv1 hv2 hv3 hv4 hv5 hPI K
      by_cases h40 : x = (40 : Int32)
      · refine zL_tswI (tgt := 1429) h40 dL_33 (by decide) (by decide) rfl (by decide) ?_
        exact zL_case40 (hops.2.2.2.2.2.2.2.2.2.2.2.2.2.2.2.2.2.2.2.2.2.2.2.2.2.2.2.2.2.2.2.2.2.2.2.2.2.2.2.2.2.1) hrf hc hs hv1 hv2 hv3 hv4 hv5 hPI K
      by_cases h41 : x = (41 : Int32)
      · refine zL_tswI (tgt := 1452) h41 dL_33 (by decide) (by decide) rfl (by decide) ?_
        exact zL_case41 (hops.2.2.2.2.2.2.2.2.2.2.2.2.2.2.2.2.2.2.2.2.2.2.2.2.2.2.2.2.2.2.2.2.2.2.2.2.2.2.2.2.2.2.1) hrf hc hs hv1 hv2 hv3 hv4 hv5 hPI K
      by_cases h42 : x = (42 : Int32)
      · refine zL_tswI (tgt := 1475) h42 dL_33 (by decide) (by decide) rfl (by decide) ?_
        exact zL_case42 (hops.2.2.2.2.2.2.2.2.2.2.2.2.2.2.2.2.2.2.2.2.2.2.2.2.2.2.2.2.2.2.2.2.2.2.2.2.2.2.2.2.2.2.2) hrf hc hs hv1 hv2 hv3 hv4 hv5 hPI K
      refine zL_tswO (tgt := 1498) dL_33 (by have e0 := lv_neT h0 (a := 0) rfl; have e1 := lv_neT h1 (a := 1) rfl; have e2 := lv_neT h2 (a := 2) rfl; have e3 := lv_neT h3 (a := 3) rfl; have e4 := lv_neT h4 (a := 4) rfl; have e5 := lv_neT h5 (a := 5) rfl; have e6 := lv_neT h6 (a := 6) rfl; have e7 := lv_neT h7 (a := 7) rfl; have e8 := lv_neT h8 (a := 8) rfl; have e9 := lv_neT h9 (a := 9) rfl; have e10 := lv_neT h10 (a := 10) rfl; have e11 := lv_neT h11 (a := 11) rfl; have e12 := lv_neT h12 (a := 12) rfl; have e13 := lv_neT h13 (a := 13) rfl; have e14 := lv_neT h14 (a := 14) rfl; have e15 := lv_neT h15 (a := 15) rfl; have e16 := lv_neT h16 (a := 16) rfl; have e17 := lv_neT h17 (a := 17) rfl; have e18 := lv_neT h18 (a := 18) rfl; have e19 := lv_neT h19 (a := 19) rfl; have e20 := lv_neT h20 (a := 20) rfl; have e21 := lv_neT h21 (a := 21) rfl; have e22 := lv_neT h22 (a := 22) rfl; have e23 := lv_neT h23 (a := 23) rfl; have e24 := lv_neT h24 (a := 24) rfl; have e25 := lv_neT h25 (a := 25) rfl; have e26 := lv_neT h26 (a := 26) rfl; have e27 := lv_neT h27 (a := 27) rfl; have e28 := lv_neT h28 (a := 28) rfl; have e29 := lv_neT h29 (a := 29) rfl; have e30 := lv_neT h30 (a := 30) rfl; have e31 := lv_neT h31 (a := 31) rfl; have e32 := lv_neT h32 (a := 32) rfl; have e33 := lv_neT h33 (a := 33) rfl; have e34 := lv_neT h34 (a := 34) rfl; have e35 := lv_neT h35 (a := 35) rfl; have e36 := lv_neT h36 (a := 36) rfl; have e37 := lv_neT h37 (a := 37) rfl; have e38 := lv_neT h38 (a := 38) rfl; have e39 := lv_neT h39 (a := 39) rfl; have e40 := lv_neT h40 (a := 40) rfl; have e41 := lv_neT h41 (a := 41) rfl; have e42 := lv_neT h42 (a := 42) rfl; omega) (by decide) ?_
      exact zL_widen (by omega) (by omega) (K n μ ν hPI)
    · have hgt : nI L - 6 < nI (6 * j) := by
        apply Int32.lt_iff_toInt_lt.mpr
        rw [hsix.1, hsix.2]
        omega
      refine zL_gtT (tgt := 1504) dL_24 (by decide) hgt ?_
      refine zL_iconst (v := (1 : Int32)) dL_1504 (by decide) ?_
      exact zL_ret (by omega) (by omega) dL_1505
