/-! ===== the cells of the system, as its constructors make them (PillarDesk: 0 to 106, images: 14 cells each from 107 on; PillarDeskModel: a memory of its own, 0 to 25) ===== -/
def zz_shL : List zz_Sh := [(4, 11, [(2, 1), (0, 0), (0, 0), (0, 0), (2, 2), (2, 16), (2, 30), (2, 32), (2, 33), (2, 34), (2, 66), (2, 69), (2, 72), (2, 83), (2, 88), (2, 93), (2, 96), (2, 98), (0, 0), (0, 0)]),
  (2, 900, []),
  (4, 6, [(0, 0), (0, 0), (0, 0), (0, 0), (2, 3), (0, 0), (2, 4), (2, 5), (2, 6), (2, 7), (0, 0), (2, 8), (2, 9), (2, 13)]),
  (0, 12, []),
  (0, 8, []),
  (0, 8, []),
  (0, 8, []),
  (0, 8, []),
  (0, 10, []),
  (4, 3, [(2, 10), (2, 11), (2, 12), (0, 0), (0, 0), (0, 0), (0, 0), (0, 0)]),
  (0, 900, []),
  (0, 5, []),
  (0, 64, []),
  (4, 9, [(2, 14), (2, 15), (0, 0)]),
  (0, 8, []),
  (0, 10, []),
  (4, 6, [(0, 0), (0, 0), (0, 0), (0, 0), (2, 17), (0, 0), (2, 18), (2, 19), (2, 20), (2, 21), (0, 0), (2, 22), (2, 23), (2, 27)]),
  (0, 12, []),
  (0, 8, []),
  (0, 8, []),
  (0, 8, []),
  (0, 8, []),
  (0, 10, []),
  (4, 3, [(2, 24), (2, 25), (2, 26), (0, 0), (0, 0), (0, 0), (0, 0), (0, 0)]),
  (0, 900, []),
  (0, 5, []),
  (0, 64, []),
  (4, 9, [(2, 28), (2, 29), (0, 0)]),
  (0, 8, []),
  (0, 10, []),
  (4, 7, [(2, 16), (3, 0), (0, 0), (0, 0), (0, 0), (0, 0), (0, 0), (0, 0), (0, 0), (0, 0)]),
  (2, 0, []),
  (6, 2, [(6, 0)]),
  (5, 4, [(5, 0), (99, 2)]),
  (4, 5, [(2, 35), (0, 0), (0, 0)]),
  (5, 10, [(4, 0), (36, 3)]),
  (4, 9, [(2, 37), (2, 38), (0, 0)]),
  (0, 8, []),
  (0, 10, []),
  (4, 9, [(2, 40), (2, 41), (0, 0)]),
  (0, 8, []),
  (0, 10, []),
  (4, 9, [(2, 43), (2, 44), (0, 0)]),
  (0, 8, []),
  (0, 10, []),
  (4, 9, [(2, 46), (2, 47), (0, 0)]),
  (0, 8, []),
  (0, 10, []),
  (4, 9, [(2, 49), (2, 50), (0, 0)]),
  (0, 8, []),
  (0, 10, []),
  (4, 9, [(2, 52), (2, 53), (0, 0)]),
  (0, 8, []),
  (0, 10, []),
  (4, 9, [(2, 55), (2, 56), (0, 0)]),
  (0, 8, []),
  (0, 10, []),
  (4, 9, [(2, 58), (2, 59), (0, 0)]),
  (0, 8, []),
  (0, 10, []),
  (4, 9, [(2, 61), (2, 62), (0, 0)]),
  (0, 8, []),
  (0, 10, []),
  (4, 9, [(2, 64), (2, 65), (0, 0)]),
  (0, 8, []),
  (0, 10, []),
  (4, 9, [(2, 67), (2, 68), (0, 0)]),
  (0, 8, []),
  (0, 10, []),
  (4, 9, [(2, 70), (2, 71), (0, 0)]),
  (0, 8, []),
  (0, 10, []),
  (4, 8, [(2, 2), (2, 81), (2, 73), (2, 74), (2, 75), (2, 76), (2, 77), (2, 78), (0, 0), (2, 79), (2, 80)]),
  (0, 8, []),
  (0, 8, []),
  (0, 8, []),
  (0, 272, []),
  (0, 8, []),
  (0, 8, []),
  (0, 9, []),
  (0, 9, []),
  (4, 0, [(2, 2), (2, 82)]),
  (2, 2048, []),
  (4, 1, [(2, 2), (2, 72), (2, 84), (2, 85), (2, 86), (2, 87), (0, 0), (1, 0), (1, 0), (1, 0), (0, 0)]),
  (0, 8, []),
  (0, 9, []),
  (1, 34, []),
  (0, 34, []),
  (4, 1, [(2, 2), (2, 72), (2, 89), (2, 90), (2, 91), (2, 92), (0, 0), (1, 0), (1, 0), (1, 0), (0, 0)]),
  (0, 8, []),
  (0, 9, []),
  (1, 34, []),
  (0, 34, []),
  (4, 2, [(2, 2), (2, 72), (2, 83), (2, 94), (2, 95)]),
  (1, 9, []),
  (1, 9, []),
  (4, 4, [(2, 2), (2, 83), (2, 88), (2, 97), (1, 0), (1, 0), (1, 0)]),
  (0, 3, []),
  (0, 90, []),
  (4, 10, [(2, 100), (0, 0), (0, 0)]),
  (1, 40, []),
  (4, 10, [(2, 102), (0, 0), (0, 0)]),
  (1, 40, []),
  (4, 10, [(2, 104), (0, 0), (0, 0)]),
  (1, 40, []),
  (4, 10, [(2, 106), (0, 0), (0, 0)]),
  (1, 40, []),
  (4, 6, [(0, 0), (0, 0), (0, 0), (0, 0), (2, 108), (0, 0), (2, 109), (2, 110), (2, 111), (2, 112), (0, 0), (2, 113), (2, 114), (2, 118)]),
  (0, 12, []),
  (0, 8, []),
  (0, 8, []),
  (0, 8, []),
  (0, 8, []),
  (0, 10, []),
  (4, 3, [(2, 115), (2, 116), (2, 117), (0, 0), (0, 0), (0, 0), (0, 0), (0, 0)]),
  (0, 900, []),
  (0, 5, []),
  (0, 64, []),
  (4, 9, [(2, 119), (2, 120), (0, 0)]),
  (0, 8, []),
  (0, 10, []),
  (4, 6, [(0, 0), (0, 0), (0, 0), (0, 0), (2, 122), (0, 0), (2, 123), (2, 124), (2, 125), (2, 126), (0, 0), (2, 127), (2, 128), (2, 132)]),
  (0, 12, []),
  (0, 8, []),
  (0, 8, []),
  (0, 8, []),
  (0, 8, []),
  (0, 10, []),
  (4, 3, [(2, 129), (2, 130), (2, 131), (0, 0), (0, 0), (0, 0), (0, 0), (0, 0)]),
  (0, 900, []),
  (0, 5, []),
  (0, 64, []),
  (4, 9, [(2, 133), (2, 134), (0, 0)]),
  (0, 8, []),
  (0, 10, [])]
def zz_sh (k : Nat) : zz_Sh := zz_shL.getD k (0, 0, [])
theorem sh_0 {G : zz_G} (hN : 107 ≤ zz_N G) : zz_SH zz_sh G 0 (4, 11, [(2, 1), (0, 0), (0, 0), (0, 0), (2, 2), (2, 16), (2, 30), (2, 32), (2, 33), (2, 34), (2, 66), (2, 69), (2, 72), (2, 83), (2, 88), (2, 93), (2, 96), (2, 98), (0, 0), (0, 0)]) := ⟨Nat.lt_of_lt_of_le (Nat.le_of_ble_eq_true rfl) hN, rfl⟩
theorem sh_1 {G : zz_G} (hN : 107 ≤ zz_N G) : zz_SH zz_sh G 1 (2, 900, []) := ⟨Nat.lt_of_lt_of_le (Nat.le_of_ble_eq_true rfl) hN, rfl⟩
theorem sh_2 {G : zz_G} (hN : 107 ≤ zz_N G) : zz_SH zz_sh G 2 (4, 6, [(0, 0), (0, 0), (0, 0), (0, 0), (2, 3), (0, 0), (2, 4), (2, 5), (2, 6), (2, 7), (0, 0), (2, 8), (2, 9), (2, 13)]) := ⟨Nat.lt_of_lt_of_le (Nat.le_of_ble_eq_true rfl) hN, rfl⟩
theorem sh_3 {G : zz_G} (hN : 107 ≤ zz_N G) : zz_SH zz_sh G 3 (0, 12, []) := ⟨Nat.lt_of_lt_of_le (Nat.le_of_ble_eq_true rfl) hN, rfl⟩
theorem sh_4 {G : zz_G} (hN : 107 ≤ zz_N G) : zz_SH zz_sh G 4 (0, 8, []) := ⟨Nat.lt_of_lt_of_le (Nat.le_of_ble_eq_true rfl) hN, rfl⟩
theorem sh_5 {G : zz_G} (hN : 107 ≤ zz_N G) : zz_SH zz_sh G 5 (0, 8, []) := ⟨Nat.lt_of_lt_of_le (Nat.le_of_ble_eq_true rfl) hN, rfl⟩
theorem sh_6 {G : zz_G} (hN : 107 ≤ zz_N G) : zz_SH zz_sh G 6 (0, 8, []) := ⟨Nat.lt_of_lt_of_le (Nat.le_of_ble_eq_true rfl) hN, rfl⟩
theorem sh_7 {G : zz_G} (hN : 107 ≤ zz_N G) : zz_SH zz_sh G 7 (0, 8, []) := ⟨Nat.lt_of_lt_of_le (Nat.le_of_ble_eq_true rfl) hN, rfl⟩
theorem sh_8 {G : zz_G} (hN : 107 ≤ zz_N G) : zz_SH zz_sh G 8 (0, 10, []) := ⟨Nat.lt_of_lt_of_le (Nat.le_of_ble_eq_true rfl) hN, rfl⟩
theorem sh_9 {G : zz_G} (hN : 107 ≤ zz_N G) : zz_SH zz_sh G 9 (4, 3, [(2, 10), (2, 11), (2, 12), (0, 0), (0, 0), (0, 0), (0, 0), (0, 0)]) := ⟨Nat.lt_of_lt_of_le (Nat.le_of_ble_eq_true rfl) hN, rfl⟩
theorem sh_10 {G : zz_G} (hN : 107 ≤ zz_N G) : zz_SH zz_sh G 10 (0, 900, []) := ⟨Nat.lt_of_lt_of_le (Nat.le_of_ble_eq_true rfl) hN, rfl⟩
theorem sh_11 {G : zz_G} (hN : 107 ≤ zz_N G) : zz_SH zz_sh G 11 (0, 5, []) := ⟨Nat.lt_of_lt_of_le (Nat.le_of_ble_eq_true rfl) hN, rfl⟩
theorem sh_12 {G : zz_G} (hN : 107 ≤ zz_N G) : zz_SH zz_sh G 12 (0, 64, []) := ⟨Nat.lt_of_lt_of_le (Nat.le_of_ble_eq_true rfl) hN, rfl⟩
theorem sh_13 {G : zz_G} (hN : 107 ≤ zz_N G) : zz_SH zz_sh G 13 (4, 9, [(2, 14), (2, 15), (0, 0)]) := ⟨Nat.lt_of_lt_of_le (Nat.le_of_ble_eq_true rfl) hN, rfl⟩
theorem sh_14 {G : zz_G} (hN : 107 ≤ zz_N G) : zz_SH zz_sh G 14 (0, 8, []) := ⟨Nat.lt_of_lt_of_le (Nat.le_of_ble_eq_true rfl) hN, rfl⟩
theorem sh_15 {G : zz_G} (hN : 107 ≤ zz_N G) : zz_SH zz_sh G 15 (0, 10, []) := ⟨Nat.lt_of_lt_of_le (Nat.le_of_ble_eq_true rfl) hN, rfl⟩
theorem sh_16 {G : zz_G} (hN : 107 ≤ zz_N G) : zz_SH zz_sh G 16 (4, 6, [(0, 0), (0, 0), (0, 0), (0, 0), (2, 17), (0, 0), (2, 18), (2, 19), (2, 20), (2, 21), (0, 0), (2, 22), (2, 23), (2, 27)]) := ⟨Nat.lt_of_lt_of_le (Nat.le_of_ble_eq_true rfl) hN, rfl⟩
theorem sh_17 {G : zz_G} (hN : 107 ≤ zz_N G) : zz_SH zz_sh G 17 (0, 12, []) := ⟨Nat.lt_of_lt_of_le (Nat.le_of_ble_eq_true rfl) hN, rfl⟩
theorem sh_18 {G : zz_G} (hN : 107 ≤ zz_N G) : zz_SH zz_sh G 18 (0, 8, []) := ⟨Nat.lt_of_lt_of_le (Nat.le_of_ble_eq_true rfl) hN, rfl⟩
theorem sh_19 {G : zz_G} (hN : 107 ≤ zz_N G) : zz_SH zz_sh G 19 (0, 8, []) := ⟨Nat.lt_of_lt_of_le (Nat.le_of_ble_eq_true rfl) hN, rfl⟩
theorem sh_20 {G : zz_G} (hN : 107 ≤ zz_N G) : zz_SH zz_sh G 20 (0, 8, []) := ⟨Nat.lt_of_lt_of_le (Nat.le_of_ble_eq_true rfl) hN, rfl⟩
theorem sh_21 {G : zz_G} (hN : 107 ≤ zz_N G) : zz_SH zz_sh G 21 (0, 8, []) := ⟨Nat.lt_of_lt_of_le (Nat.le_of_ble_eq_true rfl) hN, rfl⟩
theorem sh_22 {G : zz_G} (hN : 107 ≤ zz_N G) : zz_SH zz_sh G 22 (0, 10, []) := ⟨Nat.lt_of_lt_of_le (Nat.le_of_ble_eq_true rfl) hN, rfl⟩
theorem sh_23 {G : zz_G} (hN : 107 ≤ zz_N G) : zz_SH zz_sh G 23 (4, 3, [(2, 24), (2, 25), (2, 26), (0, 0), (0, 0), (0, 0), (0, 0), (0, 0)]) := ⟨Nat.lt_of_lt_of_le (Nat.le_of_ble_eq_true rfl) hN, rfl⟩
theorem sh_24 {G : zz_G} (hN : 107 ≤ zz_N G) : zz_SH zz_sh G 24 (0, 900, []) := ⟨Nat.lt_of_lt_of_le (Nat.le_of_ble_eq_true rfl) hN, rfl⟩
theorem sh_25 {G : zz_G} (hN : 107 ≤ zz_N G) : zz_SH zz_sh G 25 (0, 5, []) := ⟨Nat.lt_of_lt_of_le (Nat.le_of_ble_eq_true rfl) hN, rfl⟩
theorem sh_26 {G : zz_G} (hN : 107 ≤ zz_N G) : zz_SH zz_sh G 26 (0, 64, []) := ⟨Nat.lt_of_lt_of_le (Nat.le_of_ble_eq_true rfl) hN, rfl⟩
theorem sh_27 {G : zz_G} (hN : 107 ≤ zz_N G) : zz_SH zz_sh G 27 (4, 9, [(2, 28), (2, 29), (0, 0)]) := ⟨Nat.lt_of_lt_of_le (Nat.le_of_ble_eq_true rfl) hN, rfl⟩
theorem sh_28 {G : zz_G} (hN : 107 ≤ zz_N G) : zz_SH zz_sh G 28 (0, 8, []) := ⟨Nat.lt_of_lt_of_le (Nat.le_of_ble_eq_true rfl) hN, rfl⟩
theorem sh_29 {G : zz_G} (hN : 107 ≤ zz_N G) : zz_SH zz_sh G 29 (0, 10, []) := ⟨Nat.lt_of_lt_of_le (Nat.le_of_ble_eq_true rfl) hN, rfl⟩
theorem sh_30 {G : zz_G} (hN : 107 ≤ zz_N G) : zz_SH zz_sh G 30 (4, 7, [(2, 16), (3, 0), (0, 0), (0, 0), (0, 0), (0, 0), (0, 0), (0, 0), (0, 0), (0, 0)]) := ⟨Nat.lt_of_lt_of_le (Nat.le_of_ble_eq_true rfl) hN, rfl⟩
theorem sh_31 {G : zz_G} (hN : 107 ≤ zz_N G) : zz_SH zz_sh G 31 (2, 0, []) := ⟨Nat.lt_of_lt_of_le (Nat.le_of_ble_eq_true rfl) hN, rfl⟩
theorem sh_32 {G : zz_G} (hN : 107 ≤ zz_N G) : zz_SH zz_sh G 32 (6, 2, [(6, 0)]) := ⟨Nat.lt_of_lt_of_le (Nat.le_of_ble_eq_true rfl) hN, rfl⟩
theorem sh_33 {G : zz_G} (hN : 107 ≤ zz_N G) : zz_SH zz_sh G 33 (5, 4, [(5, 0), (99, 2)]) := ⟨Nat.lt_of_lt_of_le (Nat.le_of_ble_eq_true rfl) hN, rfl⟩
theorem sh_34 {G : zz_G} (hN : 107 ≤ zz_N G) : zz_SH zz_sh G 34 (4, 5, [(2, 35), (0, 0), (0, 0)]) := ⟨Nat.lt_of_lt_of_le (Nat.le_of_ble_eq_true rfl) hN, rfl⟩
theorem sh_35 {G : zz_G} (hN : 107 ≤ zz_N G) : zz_SH zz_sh G 35 (5, 10, [(4, 0), (36, 3)]) := ⟨Nat.lt_of_lt_of_le (Nat.le_of_ble_eq_true rfl) hN, rfl⟩
theorem sh_36 {G : zz_G} (hN : 107 ≤ zz_N G) : zz_SH zz_sh G 36 (4, 9, [(2, 37), (2, 38), (0, 0)]) := ⟨Nat.lt_of_lt_of_le (Nat.le_of_ble_eq_true rfl) hN, rfl⟩
theorem sh_37 {G : zz_G} (hN : 107 ≤ zz_N G) : zz_SH zz_sh G 37 (0, 8, []) := ⟨Nat.lt_of_lt_of_le (Nat.le_of_ble_eq_true rfl) hN, rfl⟩
theorem sh_38 {G : zz_G} (hN : 107 ≤ zz_N G) : zz_SH zz_sh G 38 (0, 10, []) := ⟨Nat.lt_of_lt_of_le (Nat.le_of_ble_eq_true rfl) hN, rfl⟩
theorem sh_39 {G : zz_G} (hN : 107 ≤ zz_N G) : zz_SH zz_sh G 39 (4, 9, [(2, 40), (2, 41), (0, 0)]) := ⟨Nat.lt_of_lt_of_le (Nat.le_of_ble_eq_true rfl) hN, rfl⟩
theorem sh_40 {G : zz_G} (hN : 107 ≤ zz_N G) : zz_SH zz_sh G 40 (0, 8, []) := ⟨Nat.lt_of_lt_of_le (Nat.le_of_ble_eq_true rfl) hN, rfl⟩
theorem sh_41 {G : zz_G} (hN : 107 ≤ zz_N G) : zz_SH zz_sh G 41 (0, 10, []) := ⟨Nat.lt_of_lt_of_le (Nat.le_of_ble_eq_true rfl) hN, rfl⟩
theorem sh_42 {G : zz_G} (hN : 107 ≤ zz_N G) : zz_SH zz_sh G 42 (4, 9, [(2, 43), (2, 44), (0, 0)]) := ⟨Nat.lt_of_lt_of_le (Nat.le_of_ble_eq_true rfl) hN, rfl⟩
theorem sh_43 {G : zz_G} (hN : 107 ≤ zz_N G) : zz_SH zz_sh G 43 (0, 8, []) := ⟨Nat.lt_of_lt_of_le (Nat.le_of_ble_eq_true rfl) hN, rfl⟩
theorem sh_44 {G : zz_G} (hN : 107 ≤ zz_N G) : zz_SH zz_sh G 44 (0, 10, []) := ⟨Nat.lt_of_lt_of_le (Nat.le_of_ble_eq_true rfl) hN, rfl⟩
theorem sh_45 {G : zz_G} (hN : 107 ≤ zz_N G) : zz_SH zz_sh G 45 (4, 9, [(2, 46), (2, 47), (0, 0)]) := ⟨Nat.lt_of_lt_of_le (Nat.le_of_ble_eq_true rfl) hN, rfl⟩
theorem sh_46 {G : zz_G} (hN : 107 ≤ zz_N G) : zz_SH zz_sh G 46 (0, 8, []) := ⟨Nat.lt_of_lt_of_le (Nat.le_of_ble_eq_true rfl) hN, rfl⟩
theorem sh_47 {G : zz_G} (hN : 107 ≤ zz_N G) : zz_SH zz_sh G 47 (0, 10, []) := ⟨Nat.lt_of_lt_of_le (Nat.le_of_ble_eq_true rfl) hN, rfl⟩
theorem sh_48 {G : zz_G} (hN : 107 ≤ zz_N G) : zz_SH zz_sh G 48 (4, 9, [(2, 49), (2, 50), (0, 0)]) := ⟨Nat.lt_of_lt_of_le (Nat.le_of_ble_eq_true rfl) hN, rfl⟩
theorem sh_49 {G : zz_G} (hN : 107 ≤ zz_N G) : zz_SH zz_sh G 49 (0, 8, []) := ⟨Nat.lt_of_lt_of_le (Nat.le_of_ble_eq_true rfl) hN, rfl⟩
theorem sh_50 {G : zz_G} (hN : 107 ≤ zz_N G) : zz_SH zz_sh G 50 (0, 10, []) := ⟨Nat.lt_of_lt_of_le (Nat.le_of_ble_eq_true rfl) hN, rfl⟩
theorem sh_51 {G : zz_G} (hN : 107 ≤ zz_N G) : zz_SH zz_sh G 51 (4, 9, [(2, 52), (2, 53), (0, 0)]) := ⟨Nat.lt_of_lt_of_le (Nat.le_of_ble_eq_true rfl) hN, rfl⟩
theorem sh_52 {G : zz_G} (hN : 107 ≤ zz_N G) : zz_SH zz_sh G 52 (0, 8, []) := ⟨Nat.lt_of_lt_of_le (Nat.le_of_ble_eq_true rfl) hN, rfl⟩
theorem sh_53 {G : zz_G} (hN : 107 ≤ zz_N G) : zz_SH zz_sh G 53 (0, 10, []) := ⟨Nat.lt_of_lt_of_le (Nat.le_of_ble_eq_true rfl) hN, rfl⟩
theorem sh_54 {G : zz_G} (hN : 107 ≤ zz_N G) : zz_SH zz_sh G 54 (4, 9, [(2, 55), (2, 56), (0, 0)]) := ⟨Nat.lt_of_lt_of_le (Nat.le_of_ble_eq_true rfl) hN, rfl⟩
theorem sh_55 {G : zz_G} (hN : 107 ≤ zz_N G) : zz_SH zz_sh G 55 (0, 8, []) := ⟨Nat.lt_of_lt_of_le (Nat.le_of_ble_eq_true rfl) hN, rfl⟩
theorem sh_56 {G : zz_G} (hN : 107 ≤ zz_N G) : zz_SH zz_sh G 56 (0, 10, []) := ⟨Nat.lt_of_lt_of_le (Nat.le_of_ble_eq_true rfl) hN, rfl⟩
theorem sh_57 {G : zz_G} (hN : 107 ≤ zz_N G) : zz_SH zz_sh G 57 (4, 9, [(2, 58), (2, 59), (0, 0)]) := ⟨Nat.lt_of_lt_of_le (Nat.le_of_ble_eq_true rfl) hN, rfl⟩
theorem sh_58 {G : zz_G} (hN : 107 ≤ zz_N G) : zz_SH zz_sh G 58 (0, 8, []) := ⟨Nat.lt_of_lt_of_le (Nat.le_of_ble_eq_true rfl) hN, rfl⟩
theorem sh_59 {G : zz_G} (hN : 107 ≤ zz_N G) : zz_SH zz_sh G 59 (0, 10, []) := ⟨Nat.lt_of_lt_of_le (Nat.le_of_ble_eq_true rfl) hN, rfl⟩
theorem sh_60 {G : zz_G} (hN : 107 ≤ zz_N G) : zz_SH zz_sh G 60 (4, 9, [(2, 61), (2, 62), (0, 0)]) := ⟨Nat.lt_of_lt_of_le (Nat.le_of_ble_eq_true rfl) hN, rfl⟩
theorem sh_61 {G : zz_G} (hN : 107 ≤ zz_N G) : zz_SH zz_sh G 61 (0, 8, []) := ⟨Nat.lt_of_lt_of_le (Nat.le_of_ble_eq_true rfl) hN, rfl⟩
theorem sh_62 {G : zz_G} (hN : 107 ≤ zz_N G) : zz_SH zz_sh G 62 (0, 10, []) := ⟨Nat.lt_of_lt_of_le (Nat.le_of_ble_eq_true rfl) hN, rfl⟩
theorem sh_63 {G : zz_G} (hN : 107 ≤ zz_N G) : zz_SH zz_sh G 63 (4, 9, [(2, 64), (2, 65), (0, 0)]) := ⟨Nat.lt_of_lt_of_le (Nat.le_of_ble_eq_true rfl) hN, rfl⟩
theorem sh_64 {G : zz_G} (hN : 107 ≤ zz_N G) : zz_SH zz_sh G 64 (0, 8, []) := ⟨Nat.lt_of_lt_of_le (Nat.le_of_ble_eq_true rfl) hN, rfl⟩
theorem sh_65 {G : zz_G} (hN : 107 ≤ zz_N G) : zz_SH zz_sh G 65 (0, 10, []) := ⟨Nat.lt_of_lt_of_le (Nat.le_of_ble_eq_true rfl) hN, rfl⟩
theorem sh_66 {G : zz_G} (hN : 107 ≤ zz_N G) : zz_SH zz_sh G 66 (4, 9, [(2, 67), (2, 68), (0, 0)]) := ⟨Nat.lt_of_lt_of_le (Nat.le_of_ble_eq_true rfl) hN, rfl⟩
theorem sh_67 {G : zz_G} (hN : 107 ≤ zz_N G) : zz_SH zz_sh G 67 (0, 8, []) := ⟨Nat.lt_of_lt_of_le (Nat.le_of_ble_eq_true rfl) hN, rfl⟩
theorem sh_68 {G : zz_G} (hN : 107 ≤ zz_N G) : zz_SH zz_sh G 68 (0, 10, []) := ⟨Nat.lt_of_lt_of_le (Nat.le_of_ble_eq_true rfl) hN, rfl⟩
theorem sh_69 {G : zz_G} (hN : 107 ≤ zz_N G) : zz_SH zz_sh G 69 (4, 9, [(2, 70), (2, 71), (0, 0)]) := ⟨Nat.lt_of_lt_of_le (Nat.le_of_ble_eq_true rfl) hN, rfl⟩
theorem sh_70 {G : zz_G} (hN : 107 ≤ zz_N G) : zz_SH zz_sh G 70 (0, 8, []) := ⟨Nat.lt_of_lt_of_le (Nat.le_of_ble_eq_true rfl) hN, rfl⟩
theorem sh_71 {G : zz_G} (hN : 107 ≤ zz_N G) : zz_SH zz_sh G 71 (0, 10, []) := ⟨Nat.lt_of_lt_of_le (Nat.le_of_ble_eq_true rfl) hN, rfl⟩
theorem sh_72 {G : zz_G} (hN : 107 ≤ zz_N G) : zz_SH zz_sh G 72 (4, 8, [(2, 2), (2, 81), (2, 73), (2, 74), (2, 75), (2, 76), (2, 77), (2, 78), (0, 0), (2, 79), (2, 80)]) := ⟨Nat.lt_of_lt_of_le (Nat.le_of_ble_eq_true rfl) hN, rfl⟩
theorem sh_73 {G : zz_G} (hN : 107 ≤ zz_N G) : zz_SH zz_sh G 73 (0, 8, []) := ⟨Nat.lt_of_lt_of_le (Nat.le_of_ble_eq_true rfl) hN, rfl⟩
theorem sh_74 {G : zz_G} (hN : 107 ≤ zz_N G) : zz_SH zz_sh G 74 (0, 8, []) := ⟨Nat.lt_of_lt_of_le (Nat.le_of_ble_eq_true rfl) hN, rfl⟩
theorem sh_75 {G : zz_G} (hN : 107 ≤ zz_N G) : zz_SH zz_sh G 75 (0, 8, []) := ⟨Nat.lt_of_lt_of_le (Nat.le_of_ble_eq_true rfl) hN, rfl⟩
theorem sh_76 {G : zz_G} (hN : 107 ≤ zz_N G) : zz_SH zz_sh G 76 (0, 272, []) := ⟨Nat.lt_of_lt_of_le (Nat.le_of_ble_eq_true rfl) hN, rfl⟩
theorem sh_77 {G : zz_G} (hN : 107 ≤ zz_N G) : zz_SH zz_sh G 77 (0, 8, []) := ⟨Nat.lt_of_lt_of_le (Nat.le_of_ble_eq_true rfl) hN, rfl⟩
theorem sh_78 {G : zz_G} (hN : 107 ≤ zz_N G) : zz_SH zz_sh G 78 (0, 8, []) := ⟨Nat.lt_of_lt_of_le (Nat.le_of_ble_eq_true rfl) hN, rfl⟩
theorem sh_79 {G : zz_G} (hN : 107 ≤ zz_N G) : zz_SH zz_sh G 79 (0, 9, []) := ⟨Nat.lt_of_lt_of_le (Nat.le_of_ble_eq_true rfl) hN, rfl⟩
theorem sh_80 {G : zz_G} (hN : 107 ≤ zz_N G) : zz_SH zz_sh G 80 (0, 9, []) := ⟨Nat.lt_of_lt_of_le (Nat.le_of_ble_eq_true rfl) hN, rfl⟩
theorem sh_81 {G : zz_G} (hN : 107 ≤ zz_N G) : zz_SH zz_sh G 81 (4, 0, [(2, 2), (2, 82)]) := ⟨Nat.lt_of_lt_of_le (Nat.le_of_ble_eq_true rfl) hN, rfl⟩
theorem sh_82 {G : zz_G} (hN : 107 ≤ zz_N G) : zz_SH zz_sh G 82 (2, 2048, []) := ⟨Nat.lt_of_lt_of_le (Nat.le_of_ble_eq_true rfl) hN, rfl⟩
theorem sh_83 {G : zz_G} (hN : 107 ≤ zz_N G) : zz_SH zz_sh G 83 (4, 1, [(2, 2), (2, 72), (2, 84), (2, 85), (2, 86), (2, 87), (0, 0), (1, 0), (1, 0), (1, 0), (0, 0)]) := ⟨Nat.lt_of_lt_of_le (Nat.le_of_ble_eq_true rfl) hN, rfl⟩
theorem sh_84 {G : zz_G} (hN : 107 ≤ zz_N G) : zz_SH zz_sh G 84 (0, 8, []) := ⟨Nat.lt_of_lt_of_le (Nat.le_of_ble_eq_true rfl) hN, rfl⟩
theorem sh_85 {G : zz_G} (hN : 107 ≤ zz_N G) : zz_SH zz_sh G 85 (0, 9, []) := ⟨Nat.lt_of_lt_of_le (Nat.le_of_ble_eq_true rfl) hN, rfl⟩
theorem sh_86 {G : zz_G} (hN : 107 ≤ zz_N G) : zz_SH zz_sh G 86 (1, 34, []) := ⟨Nat.lt_of_lt_of_le (Nat.le_of_ble_eq_true rfl) hN, rfl⟩
theorem sh_87 {G : zz_G} (hN : 107 ≤ zz_N G) : zz_SH zz_sh G 87 (0, 34, []) := ⟨Nat.lt_of_lt_of_le (Nat.le_of_ble_eq_true rfl) hN, rfl⟩
theorem sh_88 {G : zz_G} (hN : 107 ≤ zz_N G) : zz_SH zz_sh G 88 (4, 1, [(2, 2), (2, 72), (2, 89), (2, 90), (2, 91), (2, 92), (0, 0), (1, 0), (1, 0), (1, 0), (0, 0)]) := ⟨Nat.lt_of_lt_of_le (Nat.le_of_ble_eq_true rfl) hN, rfl⟩
theorem sh_89 {G : zz_G} (hN : 107 ≤ zz_N G) : zz_SH zz_sh G 89 (0, 8, []) := ⟨Nat.lt_of_lt_of_le (Nat.le_of_ble_eq_true rfl) hN, rfl⟩
theorem sh_90 {G : zz_G} (hN : 107 ≤ zz_N G) : zz_SH zz_sh G 90 (0, 9, []) := ⟨Nat.lt_of_lt_of_le (Nat.le_of_ble_eq_true rfl) hN, rfl⟩
theorem sh_91 {G : zz_G} (hN : 107 ≤ zz_N G) : zz_SH zz_sh G 91 (1, 34, []) := ⟨Nat.lt_of_lt_of_le (Nat.le_of_ble_eq_true rfl) hN, rfl⟩
theorem sh_92 {G : zz_G} (hN : 107 ≤ zz_N G) : zz_SH zz_sh G 92 (0, 34, []) := ⟨Nat.lt_of_lt_of_le (Nat.le_of_ble_eq_true rfl) hN, rfl⟩
theorem sh_93 {G : zz_G} (hN : 107 ≤ zz_N G) : zz_SH zz_sh G 93 (4, 2, [(2, 2), (2, 72), (2, 83), (2, 94), (2, 95)]) := ⟨Nat.lt_of_lt_of_le (Nat.le_of_ble_eq_true rfl) hN, rfl⟩
theorem sh_94 {G : zz_G} (hN : 107 ≤ zz_N G) : zz_SH zz_sh G 94 (1, 9, []) := ⟨Nat.lt_of_lt_of_le (Nat.le_of_ble_eq_true rfl) hN, rfl⟩
theorem sh_95 {G : zz_G} (hN : 107 ≤ zz_N G) : zz_SH zz_sh G 95 (1, 9, []) := ⟨Nat.lt_of_lt_of_le (Nat.le_of_ble_eq_true rfl) hN, rfl⟩
theorem sh_96 {G : zz_G} (hN : 107 ≤ zz_N G) : zz_SH zz_sh G 96 (4, 4, [(2, 2), (2, 83), (2, 88), (2, 97), (1, 0), (1, 0), (1, 0)]) := ⟨Nat.lt_of_lt_of_le (Nat.le_of_ble_eq_true rfl) hN, rfl⟩
theorem sh_97 {G : zz_G} (hN : 107 ≤ zz_N G) : zz_SH zz_sh G 97 (0, 3, []) := ⟨Nat.lt_of_lt_of_le (Nat.le_of_ble_eq_true rfl) hN, rfl⟩
theorem sh_98 {G : zz_G} (hN : 107 ≤ zz_N G) : zz_SH zz_sh G 98 (0, 90, []) := ⟨Nat.lt_of_lt_of_le (Nat.le_of_ble_eq_true rfl) hN, rfl⟩
theorem sh_99 {G : zz_G} (hN : 107 ≤ zz_N G) : zz_SH zz_sh G 99 (4, 10, [(2, 100), (0, 0), (0, 0)]) := ⟨Nat.lt_of_lt_of_le (Nat.le_of_ble_eq_true rfl) hN, rfl⟩
theorem sh_100 {G : zz_G} (hN : 107 ≤ zz_N G) : zz_SH zz_sh G 100 (1, 40, []) := ⟨Nat.lt_of_lt_of_le (Nat.le_of_ble_eq_true rfl) hN, rfl⟩
theorem sh_101 {G : zz_G} (hN : 107 ≤ zz_N G) : zz_SH zz_sh G 101 (4, 10, [(2, 102), (0, 0), (0, 0)]) := ⟨Nat.lt_of_lt_of_le (Nat.le_of_ble_eq_true rfl) hN, rfl⟩
theorem sh_102 {G : zz_G} (hN : 107 ≤ zz_N G) : zz_SH zz_sh G 102 (1, 40, []) := ⟨Nat.lt_of_lt_of_le (Nat.le_of_ble_eq_true rfl) hN, rfl⟩
theorem sh_103 {G : zz_G} (hN : 107 ≤ zz_N G) : zz_SH zz_sh G 103 (4, 10, [(2, 104), (0, 0), (0, 0)]) := ⟨Nat.lt_of_lt_of_le (Nat.le_of_ble_eq_true rfl) hN, rfl⟩
theorem sh_104 {G : zz_G} (hN : 107 ≤ zz_N G) : zz_SH zz_sh G 104 (1, 40, []) := ⟨Nat.lt_of_lt_of_le (Nat.le_of_ble_eq_true rfl) hN, rfl⟩
theorem sh_105 {G : zz_G} (hN : 107 ≤ zz_N G) : zz_SH zz_sh G 105 (4, 10, [(2, 106), (0, 0), (0, 0)]) := ⟨Nat.lt_of_lt_of_le (Nat.le_of_ble_eq_true rfl) hN, rfl⟩
theorem sh_106 {G : zz_G} (hN : 107 ≤ zz_N G) : zz_SH zz_sh G 106 (1, 40, []) := ⟨Nat.lt_of_lt_of_le (Nat.le_of_ble_eq_true rfl) hN, rfl⟩
def zz_shLM : List zz_Sh := [(4, 12, [(0, 0), (2, 1), (2, 2), (2, 3), (2, 4), (0, 0), (0, 0), (0, 0), (0, 0), (0, 0), (0, 0), (0, 0), (0, 0), (0, 0), (0, 0), (0, 0), (2, 5), (2, 6), (2, 7), (2, 8), (2, 9), (2, 10), (2, 11), (2, 12), (2, 13), (2, 14), (2, 15), (2, 16), (0, 0), (2, 17), (0, 0), (0, 0), (2, 18), (2, 19), (2, 20), (2, 21), (2, 22), (1, 0), (1, 0), (2, 23), (2, 24), (2, 25)]),
  (0, 3531, []),
  (3, 2, []),
  (0, 900, []),
  (0, 1177, []),
  (0, 900, []),
  (0, 8, []),
  (0, 8, []),
  (0, 8, []),
  (0, 8, []),
  (0, 8, []),
  (0, 272, []),
  (0, 8, []),
  (0, 9, []),
  (0, 9, []),
  (0, 9, []),
  (3, 8, []),
  (0, 19, []),
  (0, 9, []),
  (1, 9, []),
  (1, 9, []),
  (0, 90, []),
  (0, 8, []),
  (0, 4, []),
  (0, 4, []),
  (1, 160, [])]
def zz_shM (k : Nat) : zz_Sh := zz_shLM.getD k (0, 0, [])
theorem shm_0 {G : zz_G} (hN : 26 ≤ zz_N G) : zz_SH zz_shM G 0 (4, 12, [(0, 0), (2, 1), (2, 2), (2, 3), (2, 4), (0, 0), (0, 0), (0, 0), (0, 0), (0, 0), (0, 0), (0, 0), (0, 0), (0, 0), (0, 0), (0, 0), (2, 5), (2, 6), (2, 7), (2, 8), (2, 9), (2, 10), (2, 11), (2, 12), (2, 13), (2, 14), (2, 15), (2, 16), (0, 0), (2, 17), (0, 0), (0, 0), (2, 18), (2, 19), (2, 20), (2, 21), (2, 22), (1, 0), (1, 0), (2, 23), (2, 24), (2, 25)]) := ⟨Nat.lt_of_lt_of_le (Nat.le_of_ble_eq_true rfl) hN, rfl⟩
theorem shm_1 {G : zz_G} (hN : 26 ≤ zz_N G) : zz_SH zz_shM G 1 (0, 3531, []) := ⟨Nat.lt_of_lt_of_le (Nat.le_of_ble_eq_true rfl) hN, rfl⟩
theorem shm_2 {G : zz_G} (hN : 26 ≤ zz_N G) : zz_SH zz_shM G 2 (3, 2, []) := ⟨Nat.lt_of_lt_of_le (Nat.le_of_ble_eq_true rfl) hN, rfl⟩
theorem shm_3 {G : zz_G} (hN : 26 ≤ zz_N G) : zz_SH zz_shM G 3 (0, 900, []) := ⟨Nat.lt_of_lt_of_le (Nat.le_of_ble_eq_true rfl) hN, rfl⟩
theorem shm_4 {G : zz_G} (hN : 26 ≤ zz_N G) : zz_SH zz_shM G 4 (0, 1177, []) := ⟨Nat.lt_of_lt_of_le (Nat.le_of_ble_eq_true rfl) hN, rfl⟩
theorem shm_5 {G : zz_G} (hN : 26 ≤ zz_N G) : zz_SH zz_shM G 5 (0, 900, []) := ⟨Nat.lt_of_lt_of_le (Nat.le_of_ble_eq_true rfl) hN, rfl⟩
theorem shm_6 {G : zz_G} (hN : 26 ≤ zz_N G) : zz_SH zz_shM G 6 (0, 8, []) := ⟨Nat.lt_of_lt_of_le (Nat.le_of_ble_eq_true rfl) hN, rfl⟩
theorem shm_7 {G : zz_G} (hN : 26 ≤ zz_N G) : zz_SH zz_shM G 7 (0, 8, []) := ⟨Nat.lt_of_lt_of_le (Nat.le_of_ble_eq_true rfl) hN, rfl⟩
theorem shm_8 {G : zz_G} (hN : 26 ≤ zz_N G) : zz_SH zz_shM G 8 (0, 8, []) := ⟨Nat.lt_of_lt_of_le (Nat.le_of_ble_eq_true rfl) hN, rfl⟩
theorem shm_9 {G : zz_G} (hN : 26 ≤ zz_N G) : zz_SH zz_shM G 9 (0, 8, []) := ⟨Nat.lt_of_lt_of_le (Nat.le_of_ble_eq_true rfl) hN, rfl⟩
theorem shm_10 {G : zz_G} (hN : 26 ≤ zz_N G) : zz_SH zz_shM G 10 (0, 8, []) := ⟨Nat.lt_of_lt_of_le (Nat.le_of_ble_eq_true rfl) hN, rfl⟩
theorem shm_11 {G : zz_G} (hN : 26 ≤ zz_N G) : zz_SH zz_shM G 11 (0, 272, []) := ⟨Nat.lt_of_lt_of_le (Nat.le_of_ble_eq_true rfl) hN, rfl⟩
theorem shm_12 {G : zz_G} (hN : 26 ≤ zz_N G) : zz_SH zz_shM G 12 (0, 8, []) := ⟨Nat.lt_of_lt_of_le (Nat.le_of_ble_eq_true rfl) hN, rfl⟩
theorem shm_13 {G : zz_G} (hN : 26 ≤ zz_N G) : zz_SH zz_shM G 13 (0, 9, []) := ⟨Nat.lt_of_lt_of_le (Nat.le_of_ble_eq_true rfl) hN, rfl⟩
theorem shm_14 {G : zz_G} (hN : 26 ≤ zz_N G) : zz_SH zz_shM G 14 (0, 9, []) := ⟨Nat.lt_of_lt_of_le (Nat.le_of_ble_eq_true rfl) hN, rfl⟩
theorem shm_15 {G : zz_G} (hN : 26 ≤ zz_N G) : zz_SH zz_shM G 15 (0, 9, []) := ⟨Nat.lt_of_lt_of_le (Nat.le_of_ble_eq_true rfl) hN, rfl⟩
theorem shm_16 {G : zz_G} (hN : 26 ≤ zz_N G) : zz_SH zz_shM G 16 (3, 8, []) := ⟨Nat.lt_of_lt_of_le (Nat.le_of_ble_eq_true rfl) hN, rfl⟩
theorem shm_17 {G : zz_G} (hN : 26 ≤ zz_N G) : zz_SH zz_shM G 17 (0, 19, []) := ⟨Nat.lt_of_lt_of_le (Nat.le_of_ble_eq_true rfl) hN, rfl⟩
theorem shm_18 {G : zz_G} (hN : 26 ≤ zz_N G) : zz_SH zz_shM G 18 (0, 9, []) := ⟨Nat.lt_of_lt_of_le (Nat.le_of_ble_eq_true rfl) hN, rfl⟩
theorem shm_19 {G : zz_G} (hN : 26 ≤ zz_N G) : zz_SH zz_shM G 19 (1, 9, []) := ⟨Nat.lt_of_lt_of_le (Nat.le_of_ble_eq_true rfl) hN, rfl⟩
theorem shm_20 {G : zz_G} (hN : 26 ≤ zz_N G) : zz_SH zz_shM G 20 (1, 9, []) := ⟨Nat.lt_of_lt_of_le (Nat.le_of_ble_eq_true rfl) hN, rfl⟩
theorem shm_21 {G : zz_G} (hN : 26 ≤ zz_N G) : zz_SH zz_shM G 21 (0, 90, []) := ⟨Nat.lt_of_lt_of_le (Nat.le_of_ble_eq_true rfl) hN, rfl⟩
theorem shm_22 {G : zz_G} (hN : 26 ≤ zz_N G) : zz_SH zz_shM G 22 (0, 8, []) := ⟨Nat.lt_of_lt_of_le (Nat.le_of_ble_eq_true rfl) hN, rfl⟩
theorem shm_23 {G : zz_G} (hN : 26 ≤ zz_N G) : zz_SH zz_shM G 23 (0, 4, []) := ⟨Nat.lt_of_lt_of_le (Nat.le_of_ble_eq_true rfl) hN, rfl⟩
theorem shm_24 {G : zz_G} (hN : 26 ≤ zz_N G) : zz_SH zz_shM G 24 (0, 4, []) := ⟨Nat.lt_of_lt_of_le (Nat.le_of_ble_eq_true rfl) hN, rfl⟩
theorem shm_25 {G : zz_G} (hN : 26 ≤ zz_N G) : zz_SH zz_shM G 25 (1, 160, []) := ⟨Nat.lt_of_lt_of_le (Nat.le_of_ble_eq_true rfl) hN, rfl⟩
def zz_isStand (G : zz_G) (o : Nat) : Prop := zz_SH zz_sh G o (4, 9, [(2, o + 1), (2, o + 2), (0, 0)]) ∧ zz_SH zz_sh G (o + 1) (0, 8, []) ∧ zz_SH zz_sh G (o + 2) (0, 10, [])
theorem isStand_13 {G : zz_G} (hN : 107 ≤ zz_N G) : zz_isStand G 13 := ⟨sh_13 hN, sh_14 hN, sh_15 hN⟩
theorem isStand_27 {G : zz_G} (hN : 107 ≤ zz_N G) : zz_isStand G 27 := ⟨sh_27 hN, sh_28 hN, sh_29 hN⟩
theorem isStand_36 {G : zz_G} (hN : 107 ≤ zz_N G) : zz_isStand G 36 := ⟨sh_36 hN, sh_37 hN, sh_38 hN⟩
theorem isStand_39 {G : zz_G} (hN : 107 ≤ zz_N G) : zz_isStand G 39 := ⟨sh_39 hN, sh_40 hN, sh_41 hN⟩
theorem isStand_42 {G : zz_G} (hN : 107 ≤ zz_N G) : zz_isStand G 42 := ⟨sh_42 hN, sh_43 hN, sh_44 hN⟩
theorem isStand_45 {G : zz_G} (hN : 107 ≤ zz_N G) : zz_isStand G 45 := ⟨sh_45 hN, sh_46 hN, sh_47 hN⟩
theorem isStand_48 {G : zz_G} (hN : 107 ≤ zz_N G) : zz_isStand G 48 := ⟨sh_48 hN, sh_49 hN, sh_50 hN⟩
theorem isStand_51 {G : zz_G} (hN : 107 ≤ zz_N G) : zz_isStand G 51 := ⟨sh_51 hN, sh_52 hN, sh_53 hN⟩
theorem isStand_54 {G : zz_G} (hN : 107 ≤ zz_N G) : zz_isStand G 54 := ⟨sh_54 hN, sh_55 hN, sh_56 hN⟩
theorem isStand_57 {G : zz_G} (hN : 107 ≤ zz_N G) : zz_isStand G 57 := ⟨sh_57 hN, sh_58 hN, sh_59 hN⟩
theorem isStand_60 {G : zz_G} (hN : 107 ≤ zz_N G) : zz_isStand G 60 := ⟨sh_60 hN, sh_61 hN, sh_62 hN⟩
theorem isStand_63 {G : zz_G} (hN : 107 ≤ zz_N G) : zz_isStand G 63 := ⟨sh_63 hN, sh_64 hN, sh_65 hN⟩
theorem isStand_66 {G : zz_G} (hN : 107 ≤ zz_N G) : zz_isStand G 66 := ⟨sh_66 hN, sh_67 hN, sh_68 hN⟩
theorem isStand_69 {G : zz_G} (hN : 107 ≤ zz_N G) : zz_isStand G 69 := ⟨sh_69 hN, sh_70 hN, sh_71 hN⟩
def zz_isLaws (G : zz_G) (o : Nat) : Prop := zz_SH zz_sh G o (4, 3, [(2, o + 1), (2, o + 2), (2, o + 3), (0, 0), (0, 0), (0, 0), (0, 0), (0, 0)]) ∧ zz_SH zz_sh G (o + 1) (0, 900, []) ∧ zz_SH zz_sh G (o + 2) (0, 5, []) ∧ zz_SH zz_sh G (o + 3) (0, 64, [])
theorem isLaws_9 {G : zz_G} (hN : 107 ≤ zz_N G) : zz_isLaws G 9 := ⟨sh_9 hN, sh_10 hN, sh_11 hN, sh_12 hN⟩
theorem isLaws_23 {G : zz_G} (hN : 107 ≤ zz_N G) : zz_isLaws G 23 := ⟨sh_23 hN, sh_24 hN, sh_25 hN, sh_26 hN⟩
def zz_isCurve (G : zz_G) (o : Nat) : Prop := zz_SH zz_sh G o (4, 1, [(2, 2), (2, 72), (2, o + 1), (2, o + 2), (2, o + 3), (2, o + 4), (0, 0), (1, 0), (1, 0), (1, 0), (0, 0)]) ∧ zz_SH zz_sh G (o + 1) (0, 8, []) ∧ zz_SH zz_sh G (o + 2) (0, 9, []) ∧ zz_SH zz_sh G (o + 3) (1, 34, []) ∧ zz_SH zz_sh G (o + 4) (0, 34, [])
theorem isCurve_83 {G : zz_G} (hN : 107 ≤ zz_N G) : zz_isCurve G 83 := ⟨sh_83 hN, sh_84 hN, sh_85 hN, sh_86 hN, sh_87 hN⟩
theorem isCurve_88 {G : zz_G} (hN : 107 ≤ zz_N G) : zz_isCurve G 88 := ⟨sh_88 hN, sh_89 hN, sh_90 hN, sh_91 hN, sh_92 hN⟩
def zz_isTray (G : zz_G) (o : Nat) : Prop := zz_SH zz_sh G o (4, 10, [(2, o + 1), (0, 0), (0, 0)]) ∧ zz_SH zz_sh G (o + 1) (1, 40, [])
theorem isTray_99 {G : zz_G} (hN : 107 ≤ zz_N G) : zz_isTray G 99 := ⟨sh_99 hN, sh_100 hN⟩
theorem isTray_101 {G : zz_G} (hN : 107 ≤ zz_N G) : zz_isTray G 101 := ⟨sh_101 hN, sh_102 hN⟩
theorem isTray_103 {G : zz_G} (hN : 107 ≤ zz_N G) : zz_isTray G 103 := ⟨sh_103 hN, sh_104 hN⟩
theorem isTray_105 {G : zz_G} (hN : 107 ≤ zz_N G) : zz_isTray G 105 := ⟨sh_105 hN, sh_106 hN⟩
def zz_isPlan (G : zz_G) (o : Nat) : Prop := zz_SH zz_sh G o (4, 6, [(0, 0), (0, 0), (0, 0), (0, 0), (2, o + 1), (0, 0), (2, o + 2), (2, o + 3), (2, o + 4), (2, o + 5), (0, 0), (2, o + 6), (2, o + 7), (2, o + 11)]) ∧ zz_SH zz_sh G (o + 1) (0, 12, []) ∧ zz_SH zz_sh G (o + 2) (0, 8, []) ∧ zz_SH zz_sh G (o + 3) (0, 8, []) ∧ zz_SH zz_sh G (o + 4) (0, 8, []) ∧ zz_SH zz_sh G (o + 5) (0, 8, []) ∧ zz_SH zz_sh G (o + 6) (0, 10, []) ∧ zz_isLaws G (o + 7) ∧ zz_isStand G (o + 11)
theorem isPlan_2 {G : zz_G} (hN : 107 ≤ zz_N G) : zz_isPlan G 2 := ⟨sh_2 hN, sh_3 hN, sh_4 hN, sh_5 hN, sh_6 hN, sh_7 hN, sh_8 hN, isLaws_9 hN, isStand_13 hN⟩
theorem isPlan_16 {G : zz_G} (hN : 107 ≤ zz_N G) : zz_isPlan G 16 := ⟨sh_16 hN, sh_17 hN, sh_18 hN, sh_19 hN, sh_20 hN, sh_21 hN, sh_22 hN, isLaws_23 hN, isStand_27 hN⟩
theorem isStands {G : zz_G} (hN : 107 ≤ zz_N G) {j : Nat} (h : j < 10) : zz_isStand G (36 + 3 * j) := by
  match j, h with
  | 0, _ => exact isStand_36 hN
  | 1, _ => exact isStand_39 hN
  | 2, _ => exact isStand_42 hN
  | 3, _ => exact isStand_45 hN
  | 4, _ => exact isStand_48 hN
  | 5, _ => exact isStand_51 hN
  | 6, _ => exact isStand_54 hN
  | 7, _ => exact isStand_57 hN
  | 8, _ => exact isStand_60 hN
  | 9, _ => exact isStand_63 hN
theorem isTrays {G : zz_G} (hN : 107 ≤ zz_N G) {j : Nat} (h : j < 4) : zz_isTray G (99 + 2 * j) := by
  match j, h with
  | 0, _ => exact isTray_99 hN
  | 1, _ => exact isTray_101 hN
  | 2, _ => exact isTray_103 hN
  | 3, _ => exact isTray_105 hN
theorem inX0 : ∀ w ∈ u_ws RX0 TX0 2, w ∈ zz_tbl := by
  intro w hw
  obtain ⟨k, hk, rfl⟩ := List.mem_map.mp hw
  have hk := List.mem_range.mp hk
  match k, hk with
  | 0, _ => exact tm_403
  | 1, _ => exact tm_405
theorem inX1 : ∀ w ∈ u_ws RX1 TX1 11, w ∈ zz_tbl := by
  intro w hw
  obtain ⟨k, hk, rfl⟩ := List.mem_map.mp hw
  have hk := List.mem_range.mp hk
  match k, hk with
  | 0, _ => exact tm_482
  | 1, _ => exact tm_484
  | 2, _ => exact tm_486
  | 3, _ => exact tm_488
  | 4, _ => exact tm_490
  | 5, _ => exact tm_492
  | 6, _ => exact tm_494
  | 7, _ => exact tm_496
  | 8, _ => exact tm_498
  | 9, _ => exact tm_500
  | 10, _ => exact tm_502
theorem inX2 : ∀ w ∈ u_ws RX2 TX2 5, w ∈ zz_tbl := by
  intro w hw
  obtain ⟨k, hk, rfl⟩ := List.mem_map.mp hw
  have hk := List.mem_range.mp hk
  match k, hk with
  | 0, _ => exact tm_519
  | 1, _ => exact tm_521
  | 2, _ => exact tm_523
  | 3, _ => exact tm_525
  | 4, _ => exact tm_527
theorem inX3 : ∀ w ∈ u_ws RX3 TX3 8, w ∈ zz_tbl := by
  intro w hw
  obtain ⟨k, hk, rfl⟩ := List.mem_map.mp hw
  have hk := List.mem_range.mp hk
  match k, hk with
  | 0, _ => exact tm_189
  | 1, _ => exact tm_191
  | 2, _ => exact tm_193
  | 3, _ => exact tm_195
  | 4, _ => exact tm_197
  | 5, _ => exact tm_199
  | 6, _ => exact tm_201
  | 7, _ => exact tm_203
theorem inX4 : ∀ w ∈ u_ws RX4 TX4 7, w ∈ zz_tbl := by
  intro w hw
  obtain ⟨k, hk, rfl⟩ := List.mem_map.mp hw
  have hk := List.mem_range.mp hk
  match k, hk with
  | 0, _ => exact tm_546
  | 1, _ => exact tm_548
  | 2, _ => exact tm_550
  | 3, _ => exact tm_552
  | 4, _ => exact tm_554
  | 5, _ => exact tm_556
  | 6, _ => exact tm_558
theorem inX5 : ∀ w ∈ u_ws RX5 TX5 3, w ∈ zz_tbl := by
  intro w hw
  obtain ⟨k, hk, rfl⟩ := List.mem_map.mp hw
  have hk := List.mem_range.mp hk
  match k, hk with
  | 0, _ => exact tm_380
  | 1, _ => exact tm_382
  | 2, _ => exact tm_384
theorem inX6 : ∀ w ∈ u_ws RX6 TX6 14, w ∈ zz_tbl := by
  intro w hw
  obtain ⟨k, hk, rfl⟩ := List.mem_map.mp hw
  have hk := List.mem_range.mp hk
  match k, hk with
  | 0, _ => exact tm_296
  | 1, _ => exact tm_298
  | 2, _ => exact tm_300
  | 3, _ => exact tm_302
  | 4, _ => exact tm_304
  | 5, _ => exact tm_306
  | 6, _ => exact tm_308
  | 7, _ => exact tm_310
  | 8, _ => exact tm_312
  | 9, _ => exact tm_314
  | 10, _ => exact tm_316
  | 11, _ => exact tm_318
  | 12, _ => exact tm_320
  | 13, _ => exact tm_322
theorem inX7 : ∀ w ∈ u_ws RX7 TX7 10, w ∈ zz_tbl := by
  intro w hw
  obtain ⟨k, hk, rfl⟩ := List.mem_map.mp hw
  have hk := List.mem_range.mp hk
  match k, hk with
  | 0, _ => exact tm_343
  | 1, _ => exact tm_345
  | 2, _ => exact tm_347
  | 3, _ => exact tm_349
  | 4, _ => exact tm_351
  | 5, _ => exact tm_353
  | 6, _ => exact tm_355
  | 7, _ => exact tm_357
  | 8, _ => exact tm_359
  | 9, _ => exact tm_361
theorem inX8 : ∀ w ∈ u_ws RX8 TX8 11, w ∈ zz_tbl := by
  intro w hw
  obtain ⟨k, hk, rfl⟩ := List.mem_map.mp hw
  have hk := List.mem_range.mp hk
  match k, hk with
  | 0, _ => exact tm_438
  | 1, _ => exact tm_440
  | 2, _ => exact tm_442
  | 3, _ => exact tm_444
  | 4, _ => exact tm_446
  | 5, _ => exact tm_448
  | 6, _ => exact tm_450
  | 7, _ => exact tm_452
  | 8, _ => exact tm_454
  | 9, _ => exact tm_456
  | 10, _ => exact tm_458
theorem inX9 : ∀ w ∈ u_ws RX9 TX9 3, w ∈ zz_tbl := by
  intro w hw
  obtain ⟨k, hk, rfl⟩ := List.mem_map.mp hw
  have hk := List.mem_range.mp hk
  match k, hk with
  | 0, _ => exact tm_229
  | 1, _ => exact tm_231
  | 2, _ => exact tm_233
theorem inX10 : ∀ w ∈ u_ws RX10 TX10 3, w ∈ zz_tbl := by
  intro w hw
  obtain ⟨k, hk, rfl⟩ := List.mem_map.mp hw
  have hk := List.mem_range.mp hk
  match k, hk with
  | 0, _ => exact tm_571
  | 1, _ => exact tm_573
  | 2, _ => exact tm_575
theorem inX11 : ∀ w ∈ u_ws RX11 TX11 20, w ∈ zz_tbl := by
  intro w hw
  obtain ⟨k, hk, rfl⟩ := List.mem_map.mp hw
  have hk := List.mem_range.mp hk
  match k, hk with
  | 0, _ => exact tm_657
  | 1, _ => exact tm_659
  | 2, _ => exact tm_661
  | 3, _ => exact tm_663
  | 4, _ => exact tm_665
  | 5, _ => exact tm_667
  | 6, _ => exact tm_669
  | 7, _ => exact tm_671
  | 8, _ => exact tm_673
  | 9, _ => exact tm_675
  | 10, _ => exact tm_677
  | 11, _ => exact tm_679
  | 12, _ => exact tm_681
  | 13, _ => exact tm_683
  | 14, _ => exact tm_685
  | 15, _ => exact tm_687
  | 16, _ => exact tm_689
  | 17, _ => exact tm_691
  | 18, _ => exact tm_693
  | 19, _ => exact tm_695
  | k + 20, h => exact absurd h (by omega)
theorem inX12 : ∀ w ∈ u_ws RX12 TX12 42, w ∈ zz_tbl := by
  intro w hw
  obtain ⟨k, hk, rfl⟩ := List.mem_map.mp hw
  have hk := List.mem_range.mp hk
  match k, hk with
  | 0, _ => exact tm_1553
  | 1, _ => exact tm_1555
  | 2, _ => exact tm_1557
  | 3, _ => exact tm_1559
  | 4, _ => exact tm_1561
  | 5, _ => exact tm_1563
  | 6, _ => exact tm_1565
  | 7, _ => exact tm_1567
  | 8, _ => exact tm_1569
  | 9, _ => exact tm_1571
  | 10, _ => exact tm_1573
  | 11, _ => exact tm_1575
  | 12, _ => exact tm_1577
  | 13, _ => exact tm_1579
  | 14, _ => exact tm_1581
  | 15, _ => exact tm_1583
  | 16, _ => exact tm_1585
  | 17, _ => exact tm_1587
  | 18, _ => exact tm_1589
  | 19, _ => exact tm_1591
  | 20, _ => exact tm_1593
  | 21, _ => exact tm_1595
  | 22, _ => exact tm_1597
  | 23, _ => exact tm_1599
  | 24, _ => exact tm_1601
  | 25, _ => exact tm_1603
  | 26, _ => exact tm_1605
  | 27, _ => exact tm_1607
  | 28, _ => exact tm_1609
  | 29, _ => exact tm_1611
  | 30, _ => exact tm_1613
  | 31, _ => exact tm_1615
  | 32, _ => exact tm_1617
  | 33, _ => exact tm_1619
  | 34, _ => exact tm_1621
  | 35, _ => exact tm_1623
  | 36, _ => exact tm_1625
  | 37, _ => exact tm_1627
  | 38, _ => exact tm_1629
  | 39, _ => exact tm_1631
  | 40, _ => exact tm_1633
  | 41, _ => exact tm_1635
  | k + 42, h => exact absurd h (by omega)
