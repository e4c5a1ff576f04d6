/-! code, and why it is sound -/
def zcl_138_0 : List (Nat × zmI) := [(0, zm_aload 1 0), (1, zm_getR 4 8 5), (4, zm_call 7 90 1 true 5), (7, zm_iret)]
theorem zmc_138_0 (l : Launch) : zAll l "ChessWire$Foresight" prog_6_method_3_code 1 false (some .int) zcl_138_0 :=
  zA_c (zOk_fl zn_aload (zs_aload_n (q := 0) rfl (by decide +kernel))) <|
  zA_c (zOk_fl zn_getR (zs_getR (k := 5) rfl (by decide) (by decide +kernel) rfl (by decide +kernel) zw_175)) <|
  zA_c (zk_V zq_90 zw_882 rfl (by decide +kernel)) <|
  zA_c (zs_iret (by decide +kernel) rfl) <|
  zA_n
def zc_138 : Nat → zmI := zgetC [zcl_138_0]
theorem zmf_138 (l : Launch) : zMf l zc_138 138 := ⟨by decide +kernel, false, (fun h => by cases h), fun pc => zgetC_ok (zA2_c (zmc_138_0 l) (zA2_n)) pc⟩
def zcl_139_0 : List (Nat × zmI) := [(0, zm_aload 1 0), (1, zm_getR 4 8 4), (4, zm_aload 5 0), (5, zm_getR 8 8 3), (8, zm_call 11 136 2 false 2), (11, zm_aload 12 0), (12, zm_getR 15 8 4), (15, zm_aload 16 0), (16, zm_getR 19 8 5), (19, zm_iload 20 1), (20, zm_call 23 97 2 true 5), (23, zm_call 26 108 2 false 2), (26, zm_aload 27 0), (27, zm_getR 30 8 4), (30, zm_aload 31 0), (31, zm_getR 34 8 6)]
theorem zmc_139_0 (l : Launch) : zAll l "ChessWire$Foresight" prog_6_method_4_code 3 false (some .int) zcl_139_0 :=
  zA_c (zOk_fl zn_aload (zs_aload_n (q := 0) rfl (by decide +kernel))) <|
  zA_c (zOk_fl zn_getR (zs_getR (k := 4) rfl (by decide) (by decide +kernel) rfl (by decide +kernel) zw_174)) <|
  zA_c (zOk_fl zn_aload (zs_aload_n (q := 0) rfl (by decide +kernel))) <|
  zA_c (zOk_fl zn_getR (zs_getR (k := 3) rfl (by decide) (by decide +kernel) rfl (by decide +kernel) zw_173)) <|
  zA_c (zk_V zq_136 zw_865 rfl (by decide +kernel)) <|
  zA_c (zOk_fl zn_aload (zs_aload_n (q := 0) rfl (by decide +kernel))) <|
  zA_c (zOk_fl zn_getR (zs_getR (k := 4) rfl (by decide) (by decide +kernel) rfl (by decide +kernel) zw_174)) <|
  zA_c (zOk_fl zn_aload (zs_aload_n (q := 0) rfl (by decide +kernel))) <|
  zA_c (zOk_fl zn_getR (zs_getR (k := 5) rfl (by decide) (by decide +kernel) rfl (by decide +kernel) zw_175)) <|
  zA_c (zOk_fl zn_iload (zs_iload_n (q := 1) rfl (by decide +kernel))) <|
  zA_c (zk_V zq_97 zw_887 rfl (by decide +kernel)) <|
  zA_c (zk_V zq_108 zw_870 rfl (by decide +kernel)) <|
  zA_c (zOk_fl zn_aload (zs_aload_n (q := 0) rfl (by decide +kernel))) <|
  zA_c (zOk_fl zn_getR (zs_getR (k := 4) rfl (by decide) (by decide +kernel) rfl (by decide +kernel) zw_174)) <|
  zA_c (zOk_fl zn_aload (zs_aload_n (q := 0) rfl (by decide +kernel))) <|
  zA_c (zOk_fl zn_getR (zs_getR (k := 6) rfl (by decide) (by decide +kernel) rfl (by decide +kernel) zw_176)) <|
  zA_n
def zcl_139_1 : List (Nat × zmI) := [(34, zm_aload 35 0), (35, zm_getR 38 8 2), (38, zm_call 41 75 3 false 2), (41, zm_aload 42 0), (42, zm_getR 45 8 0), (45, zm_aload 46 0), (46, zm_getR 49 8 6), (49, zm_push 50 1), (50, zm_call 53 89 3 false 6), (53, zm_aload 54 0), (54, zm_getR 57 8 6), (57, zm_call 60 140 1 true 5), (60, zm_istore 61 2), (61, zm_aload 62 0), (62, zm_iload 63 2), (63, zm_push 64 (-1))]
theorem zmc_139_1 (l : Launch) : zAll l "ChessWire$Foresight" prog_6_method_4_code 3 false (some .int) zcl_139_1 :=
  zA_c (zOk_fl zn_aload (zs_aload_n (q := 0) rfl (by decide +kernel))) <|
  zA_c (zOk_fl zn_getR (zs_getR (k := 2) rfl (by decide) (by decide +kernel) rfl (by decide +kernel) zw_172)) <|
  zA_c (zk_V zq_75 zw_871 rfl (by decide +kernel)) <|
  zA_c (zOk_fl zn_aload (zs_aload_n (q := 0) rfl (by decide +kernel))) <|
  zA_c (zOk_fl zn_getR (zs_getR (k := 0) rfl (by decide) (by decide +kernel) rfl (by decide +kernel) zw_170)) <|
  zA_c (zOk_fl zn_aload (zs_aload_n (q := 0) rfl (by decide +kernel))) <|
  zA_c (zOk_fl zn_getR (zs_getR (k := 6) rfl (by decide) (by decide +kernel) rfl (by decide +kernel) zw_176)) <|
  zA_c (zOk_fl zn_push (zs_iconst (n := 1) (by decide +kernel) rfl)) <|
  zA_c (zk_V zq_89 zw_872 rfl (by decide +kernel)) <|
  zA_c (zOk_fl zn_aload (zs_aload_n (q := 0) rfl (by decide +kernel))) <|
  zA_c (zOk_fl zn_getR (zs_getR (k := 6) rfl (by decide) (by decide +kernel) rfl (by decide +kernel) zw_176)) <|
  zA_c (zk_V zq_140 zw_888 rfl (by decide +kernel)) <|
  zA_c (zOk_fl zn_istore (zs_istore_n (q := 2) rfl (by decide +kernel))) <|
  zA_c (zOk_fl zn_aload (zs_aload_n (q := 0) rfl (by decide +kernel))) <|
  zA_c (zOk_fl zn_iload (zs_iload_n (q := 2) rfl (by decide +kernel))) <|
  zA_c (zOk_fl zn_push (zs_iconst (n := (-1)) (by decide +kernel) rfl)) <|
  zA_n
def zcl_139_2 : List (Nat × zmI) := [(64, zm_icne 67 71), (67, zm_push 68 0), (68, zm_goto 79), (71, zm_aload 72 0), (72, zm_getR 75 8 6), (75, zm_iload 76 2), (76, zm_call 79 117 2 true 5), (79, zm_putI 82 8 11), (82, zm_aload 83 0), (83, zm_getR 86 8 6), (86, zm_iload 87 2), (87, zm_call 90 97 2 true 5), (90, zm_iret)]
theorem zmc_139_2 (l : Launch) : zAll l "ChessWire$Foresight" prog_6_method_4_code 3 false (some .int) zcl_139_2 :=
  zA_c (zOk_fl zn_icne (zs_icne (off := 7) (by decide +kernel) (by decide))) <|
  zA_c (zOk_fl zn_push (zs_iconst (n := 0) (by decide +kernel) rfl)) <|
  zA_c (zOk_fl zn_goto (zs_goto (off := 11) (by decide +kernel) (by decide))) <|
  zA_c (zOk_fl zn_aload (zs_aload_n (q := 0) rfl (by decide +kernel))) <|
  zA_c (zOk_fl zn_getR (zs_getR (k := 6) rfl (by decide) (by decide +kernel) rfl (by decide +kernel) zw_176)) <|
  zA_c (zOk_fl zn_iload (zs_iload_n (q := 2) rfl (by decide +kernel))) <|
  zA_c (zk_V zq_117 zw_893 rfl (by decide +kernel)) <|
  zA_c (zOk_sn zn_putI (zs_putI (k := 11) rfl (by decide) (by decide +kernel) rfl rfl (by decide +kernel) zw_181)) <|
  zA_c (zOk_fl zn_aload (zs_aload_n (q := 0) rfl (by decide +kernel))) <|
  zA_c (zOk_fl zn_getR (zs_getR (k := 6) rfl (by decide) (by decide +kernel) rfl (by decide +kernel) zw_176)) <|
  zA_c (zOk_fl zn_iload (zs_iload_n (q := 2) rfl (by decide +kernel))) <|
  zA_c (zk_V zq_97 zw_887 rfl (by decide +kernel)) <|
  zA_c (zs_iret (by decide +kernel) rfl) <|
  zA_n
def zc_139 : Nat → zmI := zgetC [zcl_139_0, zcl_139_1, zcl_139_2]
theorem zmf_139 (l : Launch) : zMf l zc_139 139 := ⟨by decide +kernel, false, (fun h => by cases h), fun pc => zgetC_ok (zA2_c (zmc_139_0 l) (zA2_c (zmc_139_1 l) (zA2_c (zmc_139_2 l) (zA2_n)))) pc⟩
def zcl_140_0 : List (Nat × zmI) := [(0, zm_push 1 (-1)), (1, zm_istore 2 1), (2, zm_push 3 0), (3, zm_istore 4 2), (4, zm_iload 5 2), (5, zm_aload 6 0), (6, zm_getI 9 5 3), (9, zm_icge 12 38), (12, zm_iload 13 1), (13, zm_push 14 (-1)), (14, zm_iceq 17 30), (17, zm_aload 18 0), (18, zm_iload 19 2), (19, zm_call 22 117 2 true 5), (22, zm_aload 23 0), (23, zm_iload 24 1), (24, zm_call 27 117 2 true 5), (27, zm_icge 30 32), (30, zm_iload 31 2), (31, zm_istore 32 1)]
theorem zmc_140_0 (l : Launch) : zAll l "ChessWire$MoveList" prog_8_method_11_code 3 false (some .int) zcl_140_0 :=
  zA_c (zOk_fl zn_push (zs_iconst (n := (-1)) (by decide +kernel) rfl)) <|
  zA_c (zOk_fl zn_istore (zs_istore_n (q := 1) rfl (by decide +kernel))) <|
  zA_c (zOk_fl zn_push (zs_iconst (n := 0) (by decide +kernel) rfl)) <|
  zA_c (zOk_fl zn_istore (zs_istore_n (q := 2) rfl (by decide +kernel))) <|
  zA_c (zOk_fl zn_iload (zs_iload_n (q := 2) rfl (by decide +kernel))) <|
  zA_c (zOk_fl zn_aload (zs_aload_n (q := 0) rfl (by decide +kernel))) <|
  zA_c (zOk_fl zn_getI (zs_getI (k := 3) rfl (by decide) (by decide +kernel) rfl (by decide +kernel) zw_111)) <|
  zA_c (zOk_fl zn_icge (zs_icge (off := 29) (by decide +kernel) (by decide))) <|
  zA_c (zOk_fl zn_iload (zs_iload_n (q := 1) rfl (by decide +kernel))) <|
  zA_c (zOk_fl zn_push (zs_iconst (n := (-1)) (by decide +kernel) rfl)) <|
  zA_c (zOk_fl zn_iceq (zs_iceq (off := 16) (by decide +kernel) (by decide))) <|
  zA_c (zOk_fl zn_aload (zs_aload_n (q := 0) rfl (by decide +kernel))) <|
  zA_c (zOk_fl zn_iload (zs_iload_n (q := 2) rfl (by decide +kernel))) <|
  zA_c (zk_V zq_117 zw_892 rfl (by decide +kernel)) <|
  zA_c (zOk_fl zn_aload (zs_aload_n (q := 0) rfl (by decide +kernel))) <|
  zA_c (zOk_fl zn_iload (zs_iload_n (q := 1) rfl (by decide +kernel))) <|
  zA_c (zk_V zq_117 zw_892 rfl (by decide +kernel)) <|
  zA_c (zOk_fl zn_icge (zs_icge (off := 5) (by decide +kernel) (by decide))) <|
  zA_c (zOk_fl zn_iload (zs_iload_n (q := 2) rfl (by decide +kernel))) <|
  zA_c (zOk_fl zn_istore (zs_istore_n (q := 1) rfl (by decide +kernel))) <|
  zA_n
def zcl_140_1 : List (Nat × zmI) := [(32, zm_iinc 35 2 1), (35, zm_goto 4), (38, zm_iload 39 1), (39, zm_iret)]
theorem zmc_140_1 (l : Launch) : zAll l "ChessWire$MoveList" prog_8_method_11_code 3 false (some .int) zcl_140_1 :=
  zA_c (zOk_fl zn_iinc (zs_iinc rfl (by decide +kernel))) <|
  zA_c (zOk_fl zn_goto (zs_goto (off := (-31)) (by decide +kernel) (by decide))) <|
  zA_c (zOk_fl zn_iload (zs_iload_n (q := 1) rfl (by decide +kernel))) <|
  zA_c (zs_iret (by decide +kernel) rfl) <|
  zA_n
def zc_140 : Nat → zmI := zgetC [zcl_140_0, zcl_140_1]
theorem zmf_140 (l : Launch) : zMf l zc_140 140 := ⟨by decide +kernel, false, (fun h => by cases h), fun pc => zgetC_ok (zA2_c (zmc_140_0 l) (zA2_c (zmc_140_1 l) (zA2_n))) pc⟩
def zcl_141_0 : List (Nat × zmI) := [(0, zm_iload 1 1), (1, zm_call 4 101 1 true 99), (4, zm_ifne 7 29), (7, zm_iload 8 2), (8, zm_iflt 11 29), (11, zm_iload 12 3), (12, zm_call 15 142 1 true 99), (15, zm_ifne 18 29), (18, zm_iload 20 4), (20, zm_iflt 23 29), (23, zm_iload 25 4), (25, zm_push 26 1), (26, zm_icle 29 35), (29, zm_push 31 (-2)), (31, zm_call 34 143 1 true 99)]
theorem zmc_141_0 (l : Launch) : zAll l "ChessWire" prog_1_method_20_code 5 false (some .long) zcl_141_0 :=
  zA_c (zOk_fl zn_iload (zs_iload_n (q := 1) rfl (by decide +kernel))) <|
  zA_c (zk_S zq_101 zw_714 (by decide +kernel)) <|
  zA_c (zOk_fl zn_ifne (zs_ifne (off := 25) (by decide +kernel) (by decide))) <|
  zA_c (zOk_fl zn_iload (zs_iload_n (q := 2) rfl (by decide +kernel))) <|
  zA_c (zOk_fl zn_iflt (zs_iflt (off := 21) (by decide +kernel) (by decide))) <|
  zA_c (zOk_fl zn_iload (zs_iload_n (q := 3) rfl (by decide +kernel))) <|
  zA_c (zk_S zq_142 zw_898 (by decide +kernel)) <|
  zA_c (zOk_fl zn_ifne (zs_ifne (off := 14) (by decide +kernel) (by decide))) <|
  zA_c (zOk_fl zn_iload (zs_iload (by decide +kernel))) <|
  zA_c (zOk_fl zn_iflt (zs_iflt (off := 9) (by decide +kernel) (by decide))) <|
  zA_c (zOk_fl zn_iload (zs_iload (by decide +kernel))) <|
  zA_c (zOk_fl zn_push (zs_iconst (n := 1) (by decide +kernel) rfl)) <|
  zA_c (zOk_fl zn_icle (zs_icle (off := 9) (by decide +kernel) (by decide))) <|
  zA_c (zOk_fl zn_push (zs_bipush (n := (-2)) (by decide +kernel) rfl)) <|
  zA_c (zk_S zq_143 zw_901 (by decide +kernel)) <|
  zA_n
def zcl_141_1 : List (Nat × zmI) := [(34, zm_lret), (35, zm_aload 36 0), (36, zm_iload 37 1), (37, zm_call 40 102 2 true 0), (40, zm_push 41 (-1)), (41, zm_icne 44 50), (44, zm_push 46 (-3)), (46, zm_call 49 143 1 true 99), (49, zm_lret), (50, zm_aload 51 0), (51, zm_getR 54 0 9), (54, zm_aload 55 0), (55, zm_getR 58 0 1), (58, zm_iload 59 1), (59, zm_aload 60 0), (60, zm_getR 63 0 7), (63, zm_call 66 135 4 false 8)]
theorem zmc_141_1 (l : Launch) : zAll l "ChessWire" prog_1_method_20_code 5 false (some .long) zcl_141_1 :=
  zA_c (zs_lret (by decide +kernel) rfl) <|
  zA_c (zOk_fl zn_aload (zs_aload_n (q := 0) rfl (by decide +kernel))) <|
  zA_c (zOk_fl zn_iload (zs_iload_n (q := 1) rfl (by decide +kernel))) <|
  zA_c (zk_V zq_102 zw_717 rfl (by decide +kernel)) <|
  zA_c (zOk_fl zn_push (zs_iconst (n := (-1)) (by decide +kernel) rfl)) <|
  zA_c (zOk_fl zn_icne (zs_icne (off := 9) (by decide +kernel) (by decide))) <|
  zA_c (zOk_fl zn_push (zs_bipush (n := (-3)) (by decide +kernel) rfl)) <|
  zA_c (zk_S zq_143 zw_901 (by decide +kernel)) <|
  zA_c (zs_lret (by decide +kernel) rfl) <|
  zA_c (zOk_fl zn_aload (zs_aload_n (q := 0) rfl (by decide +kernel))) <|
  zA_c (zOk_fl zn_getR (zs_getR (k := 9) rfl (by decide) (by decide +kernel) rfl (by decide +kernel) zw_312)) <|
  zA_c (zOk_fl zn_aload (zs_aload_n (q := 0) rfl (by decide +kernel))) <|
  zA_c (zOk_fl zn_getR (zs_getR (k := 1) rfl (by decide) (by decide +kernel) rfl (by decide +kernel) zw_304)) <|
  zA_c (zOk_fl zn_iload (zs_iload_n (q := 1) rfl (by decide +kernel))) <|
  zA_c (zOk_fl zn_aload (zs_aload_n (q := 0) rfl (by decide +kernel))) <|
  zA_c (zOk_fl zn_getR (zs_getR (k := 7) rfl (by decide) (by decide +kernel) rfl (by decide +kernel) zw_310)) <|
  zA_c (zk_V zq_135 zw_858 rfl (by decide +kernel)) <|
  zA_n
def zcl_141_2 : List (Nat × zmI) := [(66, zm_iload 67 2), (67, zm_aload 68 0), (68, zm_getR 71 0 9), (71, zm_call 74 138 1 true 8), (74, zm_iclt 77 83), (77, zm_push 79 (-2)), (79, zm_call 82 143 1 true 99), (82, zm_lret), (83, zm_aload 84 0), (84, zm_getR 87 0 9), (87, zm_iload 88 2), (88, zm_call 91 139 2 true 8), (91, zm_push 92 (-1)), (92, zm_icne 95 101), (95, zm_push 97 (-3))]
theorem zmc_141_2 (l : Launch) : zAll l "ChessWire" prog_1_method_20_code 5 false (some .long) zcl_141_2 :=
  zA_c (zOk_fl zn_iload (zs_iload_n (q := 2) rfl (by decide +kernel))) <|
  zA_c (zOk_fl zn_aload (zs_aload_n (q := 0) rfl (by decide +kernel))) <|
  zA_c (zOk_fl zn_getR (zs_getR (k := 9) rfl (by decide) (by decide +kernel) rfl (by decide +kernel) zw_312)) <|
  zA_c (zk_V zq_138 zw_878 rfl (by decide +kernel)) <|
  zA_c (zOk_fl zn_iclt (zs_iclt (off := 9) (by decide +kernel) (by decide))) <|
  zA_c (zOk_fl zn_push (zs_bipush (n := (-2)) (by decide +kernel) rfl)) <|
  zA_c (zk_S zq_143 zw_901 (by decide +kernel)) <|
  zA_c (zs_lret (by decide +kernel) rfl) <|
  zA_c (zOk_fl zn_aload (zs_aload_n (q := 0) rfl (by decide +kernel))) <|
  zA_c (zOk_fl zn_getR (zs_getR (k := 9) rfl (by decide) (by decide +kernel) rfl (by decide +kernel) zw_312)) <|
  zA_c (zOk_fl zn_iload (zs_iload_n (q := 2) rfl (by decide +kernel))) <|
  zA_c (zk_V zq_139 zw_883 rfl (by decide +kernel)) <|
  zA_c (zOk_fl zn_push (zs_iconst (n := (-1)) (by decide +kernel) rfl)) <|
  zA_c (zOk_fl zn_icne (zs_icne (off := 9) (by decide +kernel) (by decide))) <|
  zA_c (zOk_fl zn_push (zs_bipush (n := (-3)) (by decide +kernel) rfl)) <|
  zA_n
def zcl_141_3 : List (Nat × zmI) := [(97, zm_call 100 143 1 true 99), (100, zm_lret), (101, zm_iload 103 4), (103, zm_ifne 106 118), (106, zm_aload 107 0), (107, zm_getR 110 0 9), (110, zm_iload 111 2), (111, zm_iload 112 3), (112, zm_call 115 144 3 true 8), (115, zm_goto 127), (118, zm_aload 119 0), (119, zm_getR 122 0 9), (122, zm_iload 123 2), (123, zm_iload 124 3), (124, zm_call 127 148 3 true 8), (127, zm_lret)]
theorem zmc_141_3 (l : Launch) : zAll l "ChessWire" prog_1_method_20_code 5 false (some .long) zcl_141_3 :=
  zA_c (zk_S zq_143 zw_901 (by decide +kernel)) <|
  zA_c (zs_lret (by decide +kernel) rfl) <|
  zA_c (zOk_fl zn_iload (zs_iload (by decide +kernel))) <|
  zA_c (zOk_fl zn_ifne (zs_ifne (off := 15) (by decide +kernel) (by decide))) <|
  zA_c (zOk_fl zn_aload (zs_aload_n (q := 0) rfl (by decide +kernel))) <|
  zA_c (zOk_fl zn_getR (zs_getR (k := 9) rfl (by decide) (by decide +kernel) rfl (by decide +kernel) zw_312)) <|
  zA_c (zOk_fl zn_iload (zs_iload_n (q := 2) rfl (by decide +kernel))) <|
  zA_c (zOk_fl zn_iload (zs_iload_n (q := 3) rfl (by decide +kernel))) <|
  zA_c (zk_V zq_144 zw_905 rfl (by decide +kernel)) <|
  zA_c (zOk_fl zn_goto (zs_goto (off := 12) (by decide +kernel) (by decide))) <|
  zA_c (zOk_fl zn_aload (zs_aload_n (q := 0) rfl (by decide +kernel))) <|
  zA_c (zOk_fl zn_getR (zs_getR (k := 9) rfl (by decide) (by decide +kernel) rfl (by decide +kernel) zw_312)) <|
  zA_c (zOk_fl zn_iload (zs_iload_n (q := 2) rfl (by decide +kernel))) <|
  zA_c (zOk_fl zn_iload (zs_iload_n (q := 3) rfl (by decide +kernel))) <|
  zA_c (zk_V zq_148 zw_920 rfl (by decide +kernel)) <|
  zA_c (zs_lret (by decide +kernel) rfl) <|
  zA_n
def zc_141 : Nat → zmI := zgetC [zcl_141_0, zcl_141_1, zcl_141_2, zcl_141_3]
theorem zmf_141 (l : Launch) : zMf l zc_141 141 := ⟨by decide +kernel, false, (fun h => by cases h), fun pc => zgetC_ok (zA2_c (zmc_141_0 l) (zA2_c (zmc_141_1 l) (zA2_c (zmc_141_2 l) (zA2_c (zmc_141_3 l) (zA2_n))))) pc⟩
def zcl_142_0 : List (Nat × zmI) := [(0, zm_iload 1 0), (1, zm_iflt 4 10), (4, zm_iload 5 0), (5, zm_push 7 99), (7, zm_icle 10 14), (10, zm_push 11 1), (11, zm_goto 15), (14, zm_push 15 0), (15, zm_zret)]
theorem zmc_142_0 (l : Launch) : zAll l "ChessWire" prog_1_method_38_code 1 false (some .boolean) zcl_142_0 :=
  zA_c (zOk_fl zn_iload (zs_iload_n (q := 0) rfl (by decide +kernel))) <|
  zA_c (zOk_fl zn_iflt (zs_iflt (off := 9) (by decide +kernel) (by decide))) <|
  zA_c (zOk_fl zn_iload (zs_iload_n (q := 0) rfl (by decide +kernel))) <|
  zA_c (zOk_fl zn_push (zs_bipush (n := 99) (by decide +kernel) rfl)) <|
  zA_c (zOk_fl zn_icle (zs_icle (off := 7) (by decide +kernel) (by decide))) <|
  zA_c (zOk_fl zn_push (zs_iconst (n := 1) (by decide +kernel) rfl)) <|
  zA_c (zOk_fl zn_goto (zs_goto (off := 4) (by decide +kernel) (by decide))) <|
  zA_c (zOk_fl zn_push (zs_iconst (n := 0) (by decide +kernel) rfl)) <|
  zA_c (zs_zret (by decide +kernel) rfl) <|
  zA_n
def zc_142 : Nat → zmI := zgetC [zcl_142_0]
theorem zmf_142 (l : Launch) : zMf l zc_142 142 := ⟨by decide +kernel, false, (fun h => by cases h), fun pc => zgetC_ok (zA2_c (zmc_142_0 l) (zA2_n)) pc⟩
def zcl_143_0 : List (Nat × zmI) := [(0, zm_pushl 3 (-9223372036854775808)), (3, zm_iload 4 0), (4, zm_i2l 5), (5, zm_binl 6 (fun x y => w64 (x - y))), (6, zm_lret)]
theorem zmc_143_0 (l : Launch) : zAll l "ChessWire" prog_1_method_39_code 1 false (some .long) zcl_143_0 :=
  zA_c (zOk_fl zn_pushl (zs_ldc2 (by decide +kernel) zw_904 rfl)) <|
  zA_c (zOk_fl zn_iload (zs_iload_n (q := 0) rfl (by decide +kernel))) <|
  zA_c (zOk_fl zn_i2l (zs_i2l (by decide +kernel))) <|
  zA_c (zOk_fl zn_binl (zs_lsub (by decide +kernel))) <|
  zA_c (zs_lret (by decide +kernel) rfl) <|
  zA_n
def zc_143 : Nat → zmI := zgetC [zcl_143_0]
theorem zmf_143 (l : Launch) : zMf l zc_143 143 := ⟨by decide +kernel, false, (fun h => by cases h), fun pc => zgetC_ok (zA2_c (zmc_143_0 l) (zA2_n)) pc⟩
def zcl_144_0 : List (Nat × zmI) := [(0, zm_aload 1 0), (1, zm_iload 2 1), (2, zm_iload 3 2), (3, zm_aload 4 0), (4, zm_getI 7 8 11), (7, zm_call 10 145 4 true 8), (10, zm_istore 11 3), (11, zm_aload 12 0), (12, zm_getI 15 8 10), (15, zm_ifne 18 23), (18, zm_iload 19 3), (19, zm_i2l 20), (20, zm_goto 37), (23, zm_iload 24 3), (24, zm_iload 25 3), (25, zm_call 28 146 1 true 99), (28, zm_aload 29 0), (29, zm_getI 32 8 10)]
theorem zmc_144_0 (l : Launch) : zAll l "ChessWire$Foresight" prog_6_method_5_code 4 false (some .long) zcl_144_0 :=
  zA_c (zOk_fl zn_aload (zs_aload_n (q := 0) rfl (by decide +kernel))) <|
  zA_c (zOk_fl zn_iload (zs_iload_n (q := 1) rfl (by decide +kernel))) <|
  zA_c (zOk_fl zn_iload (zs_iload_n (q := 2) rfl (by decide +kernel))) <|
  zA_c (zOk_fl zn_aload (zs_aload_n (q := 0) rfl (by decide +kernel))) <|
  zA_c (zOk_fl zn_getI (zs_getI (k := 11) rfl (by decide) (by decide +kernel) rfl (by decide +kernel) zw_181)) <|
  zA_c (zk_V zq_145 zw_909 rfl (by decide +kernel)) <|
  zA_c (zOk_fl zn_istore (zs_istore_n (q := 3) rfl (by decide +kernel))) <|
  zA_c (zOk_fl zn_aload (zs_aload_n (q := 0) rfl (by decide +kernel))) <|
  zA_c (zOk_fl zn_getI (zs_getI (k := 10) rfl (by decide) (by decide +kernel) rfl (by decide +kernel) zw_180)) <|
  zA_c (zOk_fl zn_ifne (zs_ifne (off := 8) (by decide +kernel) (by decide))) <|
  zA_c (zOk_fl zn_iload (zs_iload_n (q := 3) rfl (by decide +kernel))) <|
  zA_c (zOk_fl zn_i2l (zs_i2l (by decide +kernel))) <|
  zA_c (zOk_fl zn_goto (zs_goto (off := 17) (by decide +kernel) (by decide))) <|
  zA_c (zOk_fl zn_iload (zs_iload_n (q := 3) rfl (by decide +kernel))) <|
  zA_c (zOk_fl zn_iload (zs_iload_n (q := 3) rfl (by decide +kernel))) <|
  zA_c (zk_S zq_146 zw_914 (by decide +kernel)) <|
  zA_c (zOk_fl zn_aload (zs_aload_n (q := 0) rfl (by decide +kernel))) <|
  zA_c (zOk_fl zn_getI (zs_getI (k := 10) rfl (by decide) (by decide +kernel) rfl (by decide +kernel) zw_180)) <|
  zA_n
def zcl_144_1 : List (Nat × zmI) := [(32, zm_call 35 147 2 true 99), (35, zm_quo 36 z_div), (36, zm_i2l 37), (37, zm_lret)]
theorem zmc_144_1 (l : Launch) : zAll l "ChessWire$Foresight" prog_6_method_5_code 4 false (some .long) zcl_144_1 :=
  zA_c (zk_S zq_147 zw_917 (by decide +kernel)) <|
  zA_c (zOk_fl zn_quo (zs_idiv (by decide +kernel))) <|
  zA_c (zOk_fl zn_i2l (zs_i2l (by decide +kernel))) <|
  zA_c (zs_lret (by decide +kernel) rfl) <|
  zA_n
def zc_144 : Nat → zmI := zgetC [zcl_144_0, zcl_144_1]
theorem zmf_144 (l : Launch) : zMf l zc_144 144 := ⟨by decide +kernel, false, (fun h => by cases h), fun pc => zgetC_ok (zA2_c (zmc_144_0 l) (zA2_c (zmc_144_1 l) (zA2_n))) pc⟩
def zcl_145_0 : List (Nat × zmI) := [(0, zm_aload 1 0), (1, zm_getR 4 8 5), (4, zm_iload 5 1), (5, zm_call 8 117 2 true 5), (8, zm_iload 9 3), (9, zm_bin 10 (fun x y => w32 (x + y))), (10, zm_istore 12 4), (12, zm_aload 13 0), (13, zm_getI 16 8 10), (16, zm_ifne 19 23), (19, zm_iload 21 4), (21, zm_un 22 (fun x => w32 (-x))), (22, zm_iret), (23, zm_iload 24 2), (24, zm_iload 25 3), (25, zm_bin 26 (fun x y => w32 (x + y))), (26, zm_aload 27 0), (27, zm_getR 30 8 5), (30, zm_iload 31 1), (31, zm_aload 32 0)]
theorem zmc_145_0 (l : Launch) : zAll l "ChessWire$Foresight" prog_6_method_7_code 5 false (some .int) zcl_145_0 :=
  zA_c (zOk_fl zn_aload (zs_aload_n (q := 0) rfl (by decide +kernel))) <|
  zA_c (zOk_fl zn_getR (zs_getR (k := 5) rfl (by decide) (by decide +kernel) rfl (by decide +kernel) zw_175)) <|
  zA_c (zOk_fl zn_iload (zs_iload_n (q := 1) rfl (by decide +kernel))) <|
  zA_c (zk_V zq_117 zw_893 rfl (by decide +kernel)) <|
  zA_c (zOk_fl zn_iload (zs_iload_n (q := 3) rfl (by decide +kernel))) <|
  zA_c (zOk_fl zn_bin (zs_iadd (by decide +kernel))) <|
  zA_c (zOk_fl zn_istore (zs_istore (by decide +kernel))) <|
  zA_c (zOk_fl zn_aload (zs_aload_n (q := 0) rfl (by decide +kernel))) <|
  zA_c (zOk_fl zn_getI (zs_getI (k := 10) rfl (by decide) (by decide +kernel) rfl (by decide +kernel) zw_180)) <|
  zA_c (zOk_fl zn_ifne (zs_ifne (off := 7) (by decide +kernel) (by decide))) <|
  zA_c (zOk_fl zn_iload (zs_iload (by decide +kernel))) <|
  zA_c (zOk_fl zn_un (zs_ineg (by decide +kernel))) <|
  zA_c (zs_iret (by decide +kernel) rfl) <|
  zA_c (zOk_fl zn_iload (zs_iload_n (q := 2) rfl (by decide +kernel))) <|
  zA_c (zOk_fl zn_iload (zs_iload_n (q := 3) rfl (by decide +kernel))) <|
  zA_c (zOk_fl zn_bin (zs_iadd (by decide +kernel))) <|
  zA_c (zOk_fl zn_aload (zs_aload_n (q := 0) rfl (by decide +kernel))) <|
  zA_c (zOk_fl zn_getR (zs_getR (k := 5) rfl (by decide) (by decide +kernel) rfl (by decide +kernel) zw_175)) <|
  zA_c (zOk_fl zn_iload (zs_iload_n (q := 1) rfl (by decide +kernel))) <|
  zA_c (zOk_fl zn_aload (zs_aload_n (q := 0) rfl (by decide +kernel))) <|
  zA_n
def zcl_145_1 : List (Nat × zmI) := [(32, zm_getR 35 8 1), (35, zm_call 38 132 3 true 5), (38, zm_bin 39 (fun x y => w32 (x * y))), (39, zm_iload 41 4), (41, zm_aload 42 0), (42, zm_getI 45 8 10), (45, zm_bin 46 (fun x y => w32 (x * y))), (46, zm_bin 47 (fun x y => w32 (x - y))), (47, zm_iret)]
theorem zmc_145_1 (l : Launch) : zAll l "ChessWire$Foresight" prog_6_method_7_code 5 false (some .int) zcl_145_1 :=
  zA_c (zOk_fl zn_getR (zs_getR (k := 1) rfl (by decide) (by decide +kernel) rfl (by decide +kernel) zw_171)) <|
  zA_c (zk_V zq_132 zw_913 rfl (by decide +kernel)) <|
  zA_c (zOk_fl zn_bin (zs_imul (by decide +kernel))) <|
  zA_c (zOk_fl zn_iload (zs_iload (by decide +kernel))) <|
  zA_c (zOk_fl zn_aload (zs_aload_n (q := 0) rfl (by decide +kernel))) <|
  zA_c (zOk_fl zn_getI (zs_getI (k := 10) rfl (by decide) (by decide +kernel) rfl (by decide +kernel) zw_180)) <|
  zA_c (zOk_fl zn_bin (zs_imul (by decide +kernel))) <|
  zA_c (zOk_fl zn_bin (zs_isub (by decide +kernel))) <|
  zA_c (zs_iret (by decide +kernel) rfl) <|
  zA_n
def zc_145 : Nat → zmI := zgetC [zcl_145_0, zcl_145_1]
theorem zmf_145 (l : Launch) : zMf l zc_145 145 := ⟨by decide +kernel, false, (fun h => by cases h), fun pc => zgetC_ok (zA2_c (zmc_145_0 l) (zA2_c (zmc_145_1 l) (zA2_n))) pc⟩
def zcl_146_0 : List (Nat × zmI) := [(0, zm_iload 1 0), (1, zm_ifge 4 9), (4, zm_iload 5 0), (5, zm_un 6 (fun x => w32 (-x))), (6, zm_goto 10), (9, zm_iload 10 0), (10, zm_iret)]
theorem zmc_146_0 (l : Launch) : zAll l "java/lang/Math" prog_18_method_59_code 1 false (some .int) zcl_146_0 :=
  zA_c (zOk_fl zn_iload (zs_iload_n (q := 0) rfl (by decide +kernel))) <|
  zA_c (zOk_fl zn_ifge (zs_ifge (off := 8) (by decide +kernel) (by decide))) <|
  zA_c (zOk_fl zn_iload (zs_iload_n (q := 0) rfl (by decide +kernel))) <|
  zA_c (zOk_fl zn_un (zs_ineg (by decide +kernel))) <|
  zA_c (zOk_fl zn_goto (zs_goto (off := 4) (by decide +kernel) (by decide))) <|
  zA_c (zOk_fl zn_iload (zs_iload_n (q := 0) rfl (by decide +kernel))) <|
  zA_c (zs_iret (by decide +kernel) rfl) <|
  zA_n
def zc_146 : Nat → zmI := zgetC [zcl_146_0]
theorem zmf_146 (l : Launch) : zMf l zc_146 146 := ⟨by decide +kernel, false, (fun h => by cases h), fun pc => zgetC_ok (zA2_c (zmc_146_0 l) (zA2_n)) pc⟩
def zcl_147_0 : List (Nat × zmI) := [(0, zm_iload 1 0), (1, zm_istore 2 2), (2, zm_iload 3 1), (3, zm_istore 4 3), (4, zm_push 5 0), (5, zm_istore 7 4), (7, zm_iload 9 4), (9, zm_push 11 64), (11, zm_icge 14 34), (14, zm_iload 15 3), (15, zm_ifle 18 34), (18, zm_iload 19 2), (19, zm_iload 20 3), (20, zm_quo 21 z_rem), (21, zm_istore 23 5), (23, zm_iload 24 3), (24, zm_istore 25 2), (25, zm_iload 27 5), (27, zm_istore 28 3), (28, zm_iinc 31 4 1), (31, zm_goto 7)]
theorem zmc_147_0 (l : Launch) : zAll l "ChessWire$Foresight" prog_6_method_8_code 6 false (some .int) zcl_147_0 :=
  zA_c (zOk_fl zn_iload (zs_iload_n (q := 0) rfl (by decide +kernel))) <|
  zA_c (zOk_fl zn_istore (zs_istore_n (q := 2) rfl (by decide +kernel))) <|
  zA_c (zOk_fl zn_iload (zs_iload_n (q := 1) rfl (by decide +kernel))) <|
  zA_c (zOk_fl zn_istore (zs_istore_n (q := 3) rfl (by decide +kernel))) <|
  zA_c (zOk_fl zn_push (zs_iconst (n := 0) (by decide +kernel) rfl)) <|
  zA_c (zOk_fl zn_istore (zs_istore (by decide +kernel))) <|
  zA_c (zOk_fl zn_iload (zs_iload (by decide +kernel))) <|
  zA_c (zOk_fl zn_push (zs_bipush (n := 64) (by decide +kernel) rfl)) <|
  zA_c (zOk_fl zn_icge (zs_icge (off := 23) (by decide +kernel) (by decide))) <|
  zA_c (zOk_fl zn_iload (zs_iload_n (q := 3) rfl (by decide +kernel))) <|
  zA_c (zOk_fl zn_ifle (zs_ifle (off := 19) (by decide +kernel) (by decide))) <|
  zA_c (zOk_fl zn_iload (zs_iload_n (q := 2) rfl (by decide +kernel))) <|
  zA_c (zOk_fl zn_iload (zs_iload_n (q := 3) rfl (by decide +kernel))) <|
  zA_c (zOk_fl zn_quo (zs_irem (by decide +kernel))) <|
  zA_c (zOk_fl zn_istore (zs_istore (by decide +kernel))) <|
  zA_c (zOk_fl zn_iload (zs_iload_n (q := 3) rfl (by decide +kernel))) <|
  zA_c (zOk_fl zn_istore (zs_istore_n (q := 2) rfl (by decide +kernel))) <|
  zA_c (zOk_fl zn_iload (zs_iload (by decide +kernel))) <|
  zA_c (zOk_fl zn_istore (zs_istore_n (q := 3) rfl (by decide +kernel))) <|
  zA_c (zOk_fl zn_iinc (zs_iinc rfl (by decide +kernel))) <|
  zA_c (zOk_fl zn_goto (zs_goto (off := (-24)) (by decide +kernel) (by decide))) <|
  zA_n
def zcl_147_1 : List (Nat × zmI) := [(34, zm_iload 35 2), (35, zm_ifle 38 42), (38, zm_iload 39 2), (39, zm_goto 43), (42, zm_push 43 1), (43, zm_iret)]
theorem zmc_147_1 (l : Launch) : zAll l "ChessWire$Foresight" prog_6_method_8_code 6 false (some .int) zcl_147_1 :=
  zA_c (zOk_fl zn_iload (zs_iload_n (q := 2) rfl (by decide +kernel))) <|
  zA_c (zOk_fl zn_ifle (zs_ifle (off := 7) (by decide +kernel) (by decide))) <|
  zA_c (zOk_fl zn_iload (zs_iload_n (q := 2) rfl (by decide +kernel))) <|
  zA_c (zOk_fl zn_goto (zs_goto (off := 4) (by decide +kernel) (by decide))) <|
  zA_c (zOk_fl zn_push (zs_iconst (n := 1) (by decide +kernel) rfl)) <|
  zA_c (zs_iret (by decide +kernel) rfl) <|
  zA_n
def zc_147 : Nat → zmI := zgetC [zcl_147_0, zcl_147_1]
theorem zmf_147 (l : Launch) : zMf l zc_147 147 := ⟨by decide +kernel, false, (fun h => by cases h), fun pc => zgetC_ok (zA2_c (zmc_147_0 l) (zA2_c (zmc_147_1 l) (zA2_n))) pc⟩
def zcl_148_0 : List (Nat × zmI) := [(0, zm_aload 1 0), (1, zm_iload 2 1), (2, zm_iload 3 2), (3, zm_aload 4 0), (4, zm_getI 7 8 11), (7, zm_call 10 145 4 true 8), (10, zm_istore 11 3), (11, zm_aload 12 0), (12, zm_getI 15 8 10), (15, zm_ifne 18 22), (18, zm_pushl 19 1), (19, zm_goto 39), (22, zm_aload 23 0), (23, zm_getI 26 8 10), (26, zm_iload 27 3), (27, zm_call 30 146 1 true 99), (30, zm_aload 31 0), (31, zm_getI 34 8 10)]
theorem zmc_148_0 (l : Launch) : zAll l "ChessWire$Foresight" prog_6_method_6_code 4 false (some .long) zcl_148_0 :=
  zA_c (zOk_fl zn_aload (zs_aload_n (q := 0) rfl (by decide +kernel))) <|
  zA_c (zOk_fl zn_iload (zs_iload_n (q := 1) rfl (by decide +kernel))) <|
  zA_c (zOk_fl zn_iload (zs_iload_n (q := 2) rfl (by decide +kernel))) <|
  zA_c (zOk_fl zn_aload (zs_aload_n (q := 0) rfl (by decide +kernel))) <|
  zA_c (zOk_fl zn_getI (zs_getI (k := 11) rfl (by decide) (by decide +kernel) rfl (by decide +kernel) zw_181)) <|
  zA_c (zk_V zq_145 zw_909 rfl (by decide +kernel)) <|
  zA_c (zOk_fl zn_istore (zs_istore_n (q := 3) rfl (by decide +kernel))) <|
  zA_c (zOk_fl zn_aload (zs_aload_n (q := 0) rfl (by decide +kernel))) <|
  zA_c (zOk_fl zn_getI (zs_getI (k := 10) rfl (by decide) (by decide +kernel) rfl (by decide +kernel) zw_180)) <|
  zA_c (zOk_fl zn_ifne (zs_ifne (off := 7) (by decide +kernel) (by decide))) <|
  zA_c (zOk_fl zn_pushl (zs_lconst (n := 1) (by decide +kernel) rfl)) <|
  zA_c (zOk_fl zn_goto (zs_goto (off := 20) (by decide +kernel) (by decide))) <|
  zA_c (zOk_fl zn_aload (zs_aload_n (q := 0) rfl (by decide +kernel))) <|
  zA_c (zOk_fl zn_getI (zs_getI (k := 10) rfl (by decide) (by decide +kernel) rfl (by decide +kernel) zw_180)) <|
  zA_c (zOk_fl zn_iload (zs_iload_n (q := 3) rfl (by decide +kernel))) <|
  zA_c (zk_S zq_146 zw_914 (by decide +kernel)) <|
  zA_c (zOk_fl zn_aload (zs_aload_n (q := 0) rfl (by decide +kernel))) <|
  zA_c (zOk_fl zn_getI (zs_getI (k := 10) rfl (by decide) (by decide +kernel) rfl (by decide +kernel) zw_180)) <|
  zA_n
def zcl_148_1 : List (Nat × zmI) := [(34, zm_call 37 147 2 true 99), (37, zm_quo 38 z_div), (38, zm_i2l 39), (39, zm_lret)]
theorem zmc_148_1 (l : Launch) : zAll l "ChessWire$Foresight" prog_6_method_6_code 4 false (some .long) zcl_148_1 :=
  zA_c (zk_S zq_147 zw_917 (by decide +kernel)) <|
  zA_c (zOk_fl zn_quo (zs_idiv (by decide +kernel))) <|
  zA_c (zOk_fl zn_i2l (zs_i2l (by decide +kernel))) <|
  zA_c (zs_lret (by decide +kernel) rfl) <|
  zA_n
def zc_148 : Nat → zmI := zgetC [zcl_148_0, zcl_148_1]
theorem zmf_148 (l : Launch) : zMf l zc_148 148 := ⟨by decide +kernel, false, (fun h => by cases h), fun pc => zgetC_ok (zA2_c (zmc_148_0 l) (zA2_c (zmc_148_1 l) (zA2_n))) pc⟩
def zcl_149_0 : List (Nat × zmI) := [(0, zm_iload 1 1), (1, zm_call 4 101 1 true 99), (4, zm_ifne 7 30), (7, zm_iload 8 2), (8, zm_iflt 11 30), (11, zm_iload 12 2), (12, zm_push 14 9), (14, zm_icgt 17 30), (17, zm_iload 18 3), (18, zm_call 21 142 1 true 99), (21, zm_ifne 24 30), (24, zm_iload 26 4), (26, zm_push 27 (-1)), (27, zm_icge 30 33), (30, zm_push 32 (-2))]
theorem zmc_149_0 (l : Launch) : zAll l "ChessWire" prog_1_method_21_code 6 false (some .int) zcl_149_0 :=
  zA_c (zOk_fl zn_iload (zs_iload_n (q := 1) rfl (by decide +kernel))) <|
  zA_c (zk_S zq_101 zw_714 (by decide +kernel)) <|
  zA_c (zOk_fl zn_ifne (zs_ifne (off := 26) (by decide +kernel) (by decide))) <|
  zA_c (zOk_fl zn_iload (zs_iload_n (q := 2) rfl (by decide +kernel))) <|
  zA_c (zOk_fl zn_iflt (zs_iflt (off := 22) (by decide +kernel) (by decide))) <|
  zA_c (zOk_fl zn_iload (zs_iload_n (q := 2) rfl (by decide +kernel))) <|
  zA_c (zOk_fl zn_push (zs_bipush (n := 9) (by decide +kernel) rfl)) <|
  zA_c (zOk_fl zn_icgt (zs_icgt (off := 16) (by decide +kernel) (by decide))) <|
  zA_c (zOk_fl zn_iload (zs_iload_n (q := 3) rfl (by decide +kernel))) <|
  zA_c (zk_S zq_142 zw_898 (by decide +kernel)) <|
  zA_c (zOk_fl zn_ifne (zs_ifne (off := 9) (by decide +kernel) (by decide))) <|
  zA_c (zOk_fl zn_iload (zs_iload (by decide +kernel))) <|
  zA_c (zOk_fl zn_push (zs_iconst (n := (-1)) (by decide +kernel) rfl)) <|
  zA_c (zOk_fl zn_icge (zs_icge (off := 6) (by decide +kernel) (by decide))) <|
  zA_c (zOk_fl zn_push (zs_bipush (n := (-2)) (by decide +kernel) rfl)) <|
  zA_n
def zcl_149_1 : List (Nat × zmI) := [(32, zm_iret), (33, zm_aload 34 0), (34, zm_iload 35 1), (35, zm_call 38 102 2 true 0), (38, zm_push 39 (-1)), (39, zm_icne 42 45), (42, zm_push 44 (-3)), (44, zm_iret), (45, zm_aload 46 0), (46, zm_getR 49 0 9), (49, zm_aload 50 0), (50, zm_getR 53 0 1), (53, zm_iload 54 1), (54, zm_aload 55 0), (55, zm_getR 58 0 7), (58, zm_call 61 135 4 false 8), (61, zm_aload 62 0), (62, zm_getR 65 0 9)]
theorem zmc_149_1 (l : Launch) : zAll l "ChessWire" prog_1_method_21_code 6 false (some .int) zcl_149_1 :=
  zA_c (zs_iret (by decide +kernel) rfl) <|
  zA_c (zOk_fl zn_aload (zs_aload_n (q := 0) rfl (by decide +kernel))) <|
  zA_c (zOk_fl zn_iload (zs_iload_n (q := 1) rfl (by decide +kernel))) <|
  zA_c (zk_V zq_102 zw_717 rfl (by decide +kernel)) <|
  zA_c (zOk_fl zn_push (zs_iconst (n := (-1)) (by decide +kernel) rfl)) <|
  zA_c (zOk_fl zn_icne (zs_icne (off := 6) (by decide +kernel) (by decide))) <|
  zA_c (zOk_fl zn_push (zs_bipush (n := (-3)) (by decide +kernel) rfl)) <|
  zA_c (zs_iret (by decide +kernel) rfl) <|
  zA_c (zOk_fl zn_aload (zs_aload_n (q := 0) rfl (by decide +kernel))) <|
  zA_c (zOk_fl zn_getR (zs_getR (k := 9) rfl (by decide) (by decide +kernel) rfl (by decide +kernel) zw_312)) <|
  zA_c (zOk_fl zn_aload (zs_aload_n (q := 0) rfl (by decide +kernel))) <|
  zA_c (zOk_fl zn_getR (zs_getR (k := 1) rfl (by decide) (by decide +kernel) rfl (by decide +kernel) zw_304)) <|
  zA_c (zOk_fl zn_iload (zs_iload_n (q := 1) rfl (by decide +kernel))) <|
  zA_c (zOk_fl zn_aload (zs_aload_n (q := 0) rfl (by decide +kernel))) <|
  zA_c (zOk_fl zn_getR (zs_getR (k := 7) rfl (by decide) (by decide +kernel) rfl (by decide +kernel) zw_310)) <|
  zA_c (zk_V zq_135 zw_858 rfl (by decide +kernel)) <|
  zA_c (zOk_fl zn_aload (zs_aload_n (q := 0) rfl (by decide +kernel))) <|
  zA_c (zOk_fl zn_getR (zs_getR (k := 9) rfl (by decide) (by decide +kernel) rfl (by decide +kernel) zw_312)) <|
  zA_n
def zcl_149_2 : List (Nat × zmI) := [(65, zm_iload 66 2), (66, zm_iload 67 3), (67, zm_call 70 150 3 true 8), (70, zm_istore 72 5), (72, zm_iload 74 4), (74, zm_push 75 (-1)), (75, zm_icne 78 83), (78, zm_iload 80 5), (80, zm_goto 92), (83, zm_aload 84 0), (84, zm_getR 87 0 9), (87, zm_iload 89 4), (89, zm_call 92 152 2 true 8), (92, zm_iret)]
theorem zmc_149_2 (l : Launch) : zAll l "ChessWire" prog_1_method_21_code 6 false (some .int) zcl_149_2 :=
  zA_c (zOk_fl zn_iload (zs_iload_n (q := 2) rfl (by decide +kernel))) <|
  zA_c (zOk_fl zn_iload (zs_iload_n (q := 3) rfl (by decide +kernel))) <|
  zA_c (zk_V zq_150 zw_928 rfl (by decide +kernel)) <|
  zA_c (zOk_fl zn_istore (zs_istore (by decide +kernel))) <|
  zA_c (zOk_fl zn_iload (zs_iload (by decide +kernel))) <|
  zA_c (zOk_fl zn_push (zs_iconst (n := (-1)) (by decide +kernel) rfl)) <|
  zA_c (zOk_fl zn_icne (zs_icne (off := 8) (by decide +kernel) (by decide))) <|
  zA_c (zOk_fl zn_iload (zs_iload (by decide +kernel))) <|
  zA_c (zOk_fl zn_goto (zs_goto (off := 12) (by decide +kernel) (by decide))) <|
  zA_c (zOk_fl zn_aload (zs_aload_n (q := 0) rfl (by decide +kernel))) <|
  zA_c (zOk_fl zn_getR (zs_getR (k := 9) rfl (by decide) (by decide +kernel) rfl (by decide +kernel) zw_312)) <|
  zA_c (zOk_fl zn_iload (zs_iload (by decide +kernel))) <|
  zA_c (zk_V zq_152 zw_938 rfl (by decide +kernel)) <|
  zA_c (zs_iret (by decide +kernel) rfl) <|
  zA_n
def zc_149 : Nat → zmI := zgetC [zcl_149_0, zcl_149_1, zcl_149_2]
theorem zmf_149 (l : Launch) : zMf l zc_149 149 := ⟨by decide +kernel, false, (fun h => by cases h), fun pc => zgetC_ok (zA2_c (zmc_149_0 l) (zA2_c (zmc_149_1 l) (zA2_c (zmc_149_2 l) (zA2_n)))) pc⟩
def zcl_150_0 : List (Nat × zmI) := [(0, zm_aload 1 0), (1, zm_push 2 0), (2, zm_putI 5 8 9), (5, zm_push 6 0), (6, zm_istore 7 3), (7, zm_iload 8 3), (8, zm_aload 9 0), (9, zm_getR 12 8 5), (12, zm_call 15 90 1 true 5), (15, zm_icge 18 80), (18, zm_aload 19 0), (19, zm_iload 20 3), (20, zm_iload 21 2), (21, zm_push 22 1), (22, zm_call 25 145 4 true 8), (25, zm_ifle 28 74), (28, zm_aload 29 0), (29, zm_iload 30 3), (30, zm_call 33 139 2 true 8)]
theorem zmc_150_0 (l : Launch) : zAll l "ChessWire$Foresight" prog_6_method_9_code 5 false (some .int) zcl_150_0 :=
  zA_c (zOk_fl zn_aload (zs_aload_n (q := 0) rfl (by decide +kernel))) <|
  zA_c (zOk_fl zn_push (zs_iconst (n := 0) (by decide +kernel) rfl)) <|
  zA_c (zOk_sn zn_putI (zs_putI (k := 9) rfl (by decide) (by decide +kernel) rfl rfl (by decide +kernel) zw_179)) <|
  zA_c (zOk_fl zn_push (zs_iconst (n := 0) (by decide +kernel) rfl)) <|
  zA_c (zOk_fl zn_istore (zs_istore_n (q := 3) rfl (by decide +kernel))) <|
  zA_c (zOk_fl zn_iload (zs_iload_n (q := 3) rfl (by decide +kernel))) <|
  zA_c (zOk_fl zn_aload (zs_aload_n (q := 0) rfl (by decide +kernel))) <|
  zA_c (zOk_fl zn_getR (zs_getR (k := 5) rfl (by decide) (by decide +kernel) rfl (by decide +kernel) zw_175)) <|
  zA_c (zk_V zq_90 zw_882 rfl (by decide +kernel)) <|
  zA_c (zOk_fl zn_icge (zs_icge (off := 65) (by decide +kernel) (by decide))) <|
  zA_c (zOk_fl zn_aload (zs_aload_n (q := 0) rfl (by decide +kernel))) <|
  zA_c (zOk_fl zn_iload (zs_iload_n (q := 3) rfl (by decide +kernel))) <|
  zA_c (zOk_fl zn_iload (zs_iload_n (q := 2) rfl (by decide +kernel))) <|
  zA_c (zOk_fl zn_push (zs_iconst (n := 1) (by decide +kernel) rfl)) <|
  zA_c (zk_V zq_145 zw_909 rfl (by decide +kernel)) <|
  zA_c (zOk_fl zn_ifle (zs_ifle (off := 49) (by decide +kernel) (by decide))) <|
  zA_c (zOk_fl zn_aload (zs_aload_n (q := 0) rfl (by decide +kernel))) <|
  zA_c (zOk_fl zn_iload (zs_iload_n (q := 3) rfl (by decide +kernel))) <|
  zA_c (zk_V zq_139 zw_932 rfl (by decide +kernel)) <|
  zA_n
def zcl_150_1 : List (Nat × zmI) := [(33, zm_push 34 (-1)), (34, zm_iceq 37 74), (37, zm_aload 38 0), (38, zm_iload 39 3), (39, zm_iload 40 2), (40, zm_aload 41 0), (41, zm_getI 44 8 11), (44, zm_call 47 145 4 true 8), (47, zm_istore 49 4), (49, zm_iload 51 4), (51, zm_ifle 54 74), (54, zm_aload 55 0), (55, zm_aload 56 0), (56, zm_getR 59 8 5), (59, zm_iload 60 3), (60, zm_call 63 97 2 true 5), (63, zm_iload 65 4)]
theorem zmc_150_1 (l : Launch) : zAll l "ChessWire$Foresight" prog_6_method_9_code 5 false (some .int) zcl_150_1 :=
  zA_c (zOk_fl zn_push (zs_iconst (n := (-1)) (by decide +kernel) rfl)) <|
  zA_c (zOk_fl zn_iceq (zs_iceq (off := 40) (by decide +kernel) (by decide))) <|
  zA_c (zOk_fl zn_aload (zs_aload_n (q := 0) rfl (by decide +kernel))) <|
  zA_c (zOk_fl zn_iload (zs_iload_n (q := 3) rfl (by decide +kernel))) <|
  zA_c (zOk_fl zn_iload (zs_iload_n (q := 2) rfl (by decide +kernel))) <|
  zA_c (zOk_fl zn_aload (zs_aload_n (q := 0) rfl (by decide +kernel))) <|
  zA_c (zOk_fl zn_getI (zs_getI (k := 11) rfl (by decide) (by decide +kernel) rfl (by decide +kernel) zw_181)) <|
  zA_c (zk_V zq_145 zw_909 rfl (by decide +kernel)) <|
  zA_c (zOk_fl zn_istore (zs_istore (by decide +kernel))) <|
  zA_c (zOk_fl zn_iload (zs_iload (by decide +kernel))) <|
  zA_c (zOk_fl zn_ifle (zs_ifle (off := 23) (by decide +kernel) (by decide))) <|
  zA_c (zOk_fl zn_aload (zs_aload_n (q := 0) rfl (by decide +kernel))) <|
  zA_c (zOk_fl zn_aload (zs_aload_n (q := 0) rfl (by decide +kernel))) <|
  zA_c (zOk_fl zn_getR (zs_getR (k := 5) rfl (by decide) (by decide +kernel) rfl (by decide +kernel) zw_175)) <|
  zA_c (zOk_fl zn_iload (zs_iload_n (q := 3) rfl (by decide +kernel))) <|
  zA_c (zk_V zq_97 zw_887 rfl (by decide +kernel)) <|
  zA_c (zOk_fl zn_iload (zs_iload (by decide +kernel))) <|
  zA_n
def zcl_150_2 : List (Nat × zmI) := [(65, zm_iload 66 1), (66, zm_push 68 9), (68, zm_call 71 35 2 true 99), (71, zm_call 74 151 4 false 8), (74, zm_iinc 77 3 1), (77, zm_goto 7), (80, zm_aload 81 0), (81, zm_getI 84 8 9), (84, zm_iret)]
theorem zmc_150_2 (l : Launch) : zAll l "ChessWire$Foresight" prog_6_method_9_code 5 false (some .int) zcl_150_2 :=
  zA_c (zOk_fl zn_iload (zs_iload_n (q := 1) rfl (by decide +kernel))) <|
  zA_c (zOk_fl zn_push (zs_bipush (n := 9) (by decide +kernel) rfl)) <|
  zA_c (zk_S zq_35 zw_933 (by decide +kernel)) <|
  zA_c (zk_V zq_151 zw_934 rfl (by decide +kernel)) <|
  zA_c (zOk_fl zn_iinc (zs_iinc rfl (by decide +kernel))) <|
  zA_c (zOk_fl zn_goto (zs_goto (off := (-70)) (by decide +kernel) (by decide))) <|
  zA_c (zOk_fl zn_aload (zs_aload_n (q := 0) rfl (by decide +kernel))) <|
  zA_c (zOk_fl zn_getI (zs_getI (k := 9) rfl (by decide) (by decide +kernel) rfl (by decide +kernel) zw_179)) <|
  zA_c (zs_iret (by decide +kernel) rfl) <|
  zA_n
def zc_150 : Nat → zmI := zgetC [zcl_150_0, zcl_150_1, zcl_150_2]
theorem zmf_150 (l : Launch) : zMf l zc_150 150 := ⟨by decide +kernel, false, (fun h => by cases h), fun pc => zgetC_ok (zA2_c (zmc_150_0 l) (zA2_c (zmc_150_1 l) (zA2_c (zmc_150_2 l) (zA2_n)))) pc⟩
def zcl_151_0 : List (Nat × zmI) := [(0, zm_aload 1 0), (1, zm_getI 4 8 9), (4, zm_istore 6 4), (6, zm_iload 8 4), (8, zm_ifle 11 30), (11, zm_aload 12 0), (12, zm_getR 15 8 8), (15, zm_iload 17 4), (17, zm_push 18 1), (18, zm_bin 19 (fun x y => w32 (x - y))), (19, zm_ald 20 100), (20, zm_iload 21 2), (21, zm_icge 24 30), (24, zm_iinc 27 4 (-1)), (27, zm_goto 6), (30, zm_iload 32 4)]
theorem zmc_151_0 (l : Launch) : zAll l "ChessWire$Foresight" prog_6_method_10_code 6 false (none) zcl_151_0 :=
  zA_c (zOk_fl zn_aload (zs_aload_n (q := 0) rfl (by decide +kernel))) <|
  zA_c (zOk_fl zn_getI (zs_getI (k := 9) rfl (by decide) (by decide +kernel) rfl (by decide +kernel) zw_179)) <|
  zA_c (zOk_fl zn_istore (zs_istore (by decide +kernel))) <|
  zA_c (zOk_fl zn_iload (zs_iload (by decide +kernel))) <|
  zA_c (zOk_fl zn_ifle (zs_ifle (off := 22) (by decide +kernel) (by decide))) <|
  zA_c (zOk_fl zn_aload (zs_aload_n (q := 0) rfl (by decide +kernel))) <|
  zA_c (zOk_fl zn_getR (zs_getR (k := 8) rfl (by decide) (by decide +kernel) rfl (by decide +kernel) zw_178)) <|
  zA_c (zOk_fl zn_iload (zs_iload (by decide +kernel))) <|
  zA_c (zOk_fl zn_push (zs_iconst (n := 1) (by decide +kernel) rfl)) <|
  zA_c (zOk_fl zn_bin (zs_isub (by decide +kernel))) <|
  zA_c (zOk_fl zn_ald (zs_iald (by decide +kernel))) <|
  zA_c (zOk_fl zn_iload (zs_iload_n (q := 2) rfl (by decide +kernel))) <|
  zA_c (zOk_fl zn_icge (zs_icge (off := 9) (by decide +kernel) (by decide))) <|
  zA_c (zOk_fl zn_iinc (zs_iinc rfl (by decide +kernel))) <|
  zA_c (zOk_fl zn_goto (zs_goto (off := (-21)) (by decide +kernel) (by decide))) <|
  zA_c (zOk_fl zn_iload (zs_iload (by decide +kernel))) <|
  zA_n
def zcl_151_1 : List (Nat × zmI) := [(32, zm_iload 33 3), (33, zm_iclt 36 37), (36, zm_vret), (37, zm_aload 38 0), (38, zm_aload 39 0), (39, zm_getI 42 8 9), (42, zm_push 43 1), (43, zm_bin 44 (fun x y => w32 (x + y))), (44, zm_iload 45 3), (45, zm_call 48 35 2 true 99), (48, zm_putI 51 8 9), (51, zm_aload 52 0), (52, zm_getI 55 8 9), (55, zm_push 56 1), (56, zm_bin 57 (fun x y => w32 (x - y))), (57, zm_istore 59 5), (59, zm_iload 61 5), (61, zm_iload 63 4), (63, zm_icle 66 104)]
theorem zmc_151_1 (l : Launch) : zAll l "ChessWire$Foresight" prog_6_method_10_code 6 false (none) zcl_151_1 :=
  zA_c (zOk_fl zn_iload (zs_iload_n (q := 3) rfl (by decide +kernel))) <|
  zA_c (zOk_fl zn_iclt (zs_iclt (off := 4) (by decide +kernel) (by decide))) <|
  zA_c (zs_vret (by decide +kernel) rfl) <|
  zA_c (zOk_fl zn_aload (zs_aload_n (q := 0) rfl (by decide +kernel))) <|
  zA_c (zOk_fl zn_aload (zs_aload_n (q := 0) rfl (by decide +kernel))) <|
  zA_c (zOk_fl zn_getI (zs_getI (k := 9) rfl (by decide) (by decide +kernel) rfl (by decide +kernel) zw_179)) <|
  zA_c (zOk_fl zn_push (zs_iconst (n := 1) (by decide +kernel) rfl)) <|
  zA_c (zOk_fl zn_bin (zs_iadd (by decide +kernel))) <|
  zA_c (zOk_fl zn_iload (zs_iload_n (q := 3) rfl (by decide +kernel))) <|
  zA_c (zk_S zq_35 zw_933 (by decide +kernel)) <|
  zA_c (zOk_sn zn_putI (zs_putI (k := 9) rfl (by decide) (by decide +kernel) rfl rfl (by decide +kernel) zw_179)) <|
  zA_c (zOk_fl zn_aload (zs_aload_n (q := 0) rfl (by decide +kernel))) <|
  zA_c (zOk_fl zn_getI (zs_getI (k := 9) rfl (by decide) (by decide +kernel) rfl (by decide +kernel) zw_179)) <|
  zA_c (zOk_fl zn_push (zs_iconst (n := 1) (by decide +kernel) rfl)) <|
  zA_c (zOk_fl zn_bin (zs_isub (by decide +kernel))) <|
  zA_c (zOk_fl zn_istore (zs_istore (by decide +kernel))) <|
  zA_c (zOk_fl zn_iload (zs_iload (by decide +kernel))) <|
  zA_c (zOk_fl zn_iload (zs_iload (by decide +kernel))) <|
  zA_c (zOk_fl zn_icle (zs_icle (off := 41) (by decide +kernel) (by decide))) <|
  zA_n
def zcl_151_2 : List (Nat × zmI) := [(66, zm_aload 67 0), (67, zm_getR 70 8 7), (70, zm_iload 72 5), (72, zm_aload 73 0), (73, zm_getR 76 8 7), (76, zm_iload 78 5), (78, zm_push 79 1), (79, zm_bin 80 (fun x y => w32 (x - y))), (80, zm_ald 81 100), (81, zm_iast 82), (82, zm_aload 83 0), (83, zm_getR 86 8 8), (86, zm_iload 88 5), (88, zm_aload 89 0), (89, zm_getR 92 8 8), (92, zm_iload 94 5), (94, zm_push 95 1), (95, zm_bin 96 (fun x y => w32 (x - y)))]
theorem zmc_151_2 (l : Launch) : zAll l "ChessWire$Foresight" prog_6_method_10_code 6 false (none) zcl_151_2 :=
  zA_c (zOk_fl zn_aload (zs_aload_n (q := 0) rfl (by decide +kernel))) <|
  zA_c (zOk_fl zn_getR (zs_getR (k := 7) rfl (by decide) (by decide +kernel) rfl (by decide +kernel) zw_177)) <|
  zA_c (zOk_fl zn_iload (zs_iload (by decide +kernel))) <|
  zA_c (zOk_fl zn_aload (zs_aload_n (q := 0) rfl (by decide +kernel))) <|
  zA_c (zOk_fl zn_getR (zs_getR (k := 7) rfl (by decide) (by decide +kernel) rfl (by decide +kernel) zw_177)) <|
  zA_c (zOk_fl zn_iload (zs_iload (by decide +kernel))) <|
  zA_c (zOk_fl zn_push (zs_iconst (n := 1) (by decide +kernel) rfl)) <|
  zA_c (zOk_fl zn_bin (zs_isub (by decide +kernel))) <|
  zA_c (zOk_fl zn_ald (zs_iald (by decide +kernel))) <|
  zA_c (zOk_sn zn_iast (zs_iast (by decide +kernel))) <|
  zA_c (zOk_fl zn_aload (zs_aload_n (q := 0) rfl (by decide +kernel))) <|
  zA_c (zOk_fl zn_getR (zs_getR (k := 8) rfl (by decide) (by decide +kernel) rfl (by decide +kernel) zw_178)) <|
  zA_c (zOk_fl zn_iload (zs_iload (by decide +kernel))) <|
  zA_c (zOk_fl zn_aload (zs_aload_n (q := 0) rfl (by decide +kernel))) <|
  zA_c (zOk_fl zn_getR (zs_getR (k := 8) rfl (by decide) (by decide +kernel) rfl (by decide +kernel) zw_178)) <|
  zA_c (zOk_fl zn_iload (zs_iload (by decide +kernel))) <|
  zA_c (zOk_fl zn_push (zs_iconst (n := 1) (by decide +kernel) rfl)) <|
  zA_c (zOk_fl zn_bin (zs_isub (by decide +kernel))) <|
  zA_n
def zcl_151_3 : List (Nat × zmI) := [(96, zm_ald 97 100), (97, zm_iast 98), (98, zm_iinc 101 5 (-1)), (101, zm_goto 59), (104, zm_aload 105 0), (105, zm_getR 108 8 7), (108, zm_iload 110 4), (110, zm_iload 111 1), (111, zm_iast 112), (112, zm_aload 113 0), (113, zm_getR 116 8 8), (116, zm_iload 118 4), (118, zm_iload 119 2), (119, zm_iast 120), (120, zm_vret)]
theorem zmc_151_3 (l : Launch) : zAll l "ChessWire$Foresight" prog_6_method_10_code 6 false (none) zcl_151_3 :=
  zA_c (zOk_fl zn_ald (zs_iald (by decide +kernel))) <|
  zA_c (zOk_sn zn_iast (zs_iast (by decide +kernel))) <|
  zA_c (zOk_fl zn_iinc (zs_iinc rfl (by decide +kernel))) <|
  zA_c (zOk_fl zn_goto (zs_goto (off := (-42)) (by decide +kernel) (by decide))) <|
  zA_c (zOk_fl zn_aload (zs_aload_n (q := 0) rfl (by decide +kernel))) <|
  zA_c (zOk_fl zn_getR (zs_getR (k := 7) rfl (by decide) (by decide +kernel) rfl (by decide +kernel) zw_177)) <|
  zA_c (zOk_fl zn_iload (zs_iload (by decide +kernel))) <|
  zA_c (zOk_fl zn_iload (zs_iload_n (q := 1) rfl (by decide +kernel))) <|
  zA_c (zOk_sn zn_iast (zs_iast (by decide +kernel))) <|
  zA_c (zOk_fl zn_aload (zs_aload_n (q := 0) rfl (by decide +kernel))) <|
  zA_c (zOk_fl zn_getR (zs_getR (k := 8) rfl (by decide) (by decide +kernel) rfl (by decide +kernel) zw_178)) <|
  zA_c (zOk_fl zn_iload (zs_iload (by decide +kernel))) <|
  zA_c (zOk_fl zn_iload (zs_iload_n (q := 2) rfl (by decide +kernel))) <|
  zA_c (zOk_sn zn_iast (zs_iast (by decide +kernel))) <|
  zA_c (zs_vret (by decide +kernel) rfl) <|
  zA_n
def zc_151 : Nat → zmI := zgetC [zcl_151_0, zcl_151_1, zcl_151_2, zcl_151_3]
theorem zmf_151 (l : Launch) : zMf l zc_151 151 := ⟨by decide +kernel, false, (fun h => by cases h), fun pc => zgetC_ok (zA2_c (zmc_151_0 l) (zA2_c (zmc_151_1 l) (zA2_c (zmc_151_2 l) (zA2_c (zmc_151_3 l) (zA2_n))))) pc⟩
def zcl_152_0 : List (Nat × zmI) := [(0, zm_iload 1 1), (1, zm_iflt 4 21), (4, zm_iload 5 1), (5, zm_aload 6 0), (6, zm_getI 9 8 9), (9, zm_icge 12 21), (12, zm_aload 13 0), (13, zm_getR 16 8 7), (16, zm_iload 17 1), (17, zm_ald 18 100), (18, zm_goto 22), (21, zm_push 22 (-1)), (22, zm_iret)]
theorem zmc_152_0 (l : Launch) : zAll l "ChessWire$Foresight" prog_6_method_11_code 2 false (some .int) zcl_152_0 :=
  zA_c (zOk_fl zn_iload (zs_iload_n (q := 1) rfl (by decide +kernel))) <|
  zA_c (zOk_fl zn_iflt (zs_iflt (off := 20) (by decide +kernel) (by decide))) <|
  zA_c (zOk_fl zn_iload (zs_iload_n (q := 1) rfl (by decide +kernel))) <|
  zA_c (zOk_fl zn_aload (zs_aload_n (q := 0) rfl (by decide +kernel))) <|
  zA_c (zOk_fl zn_getI (zs_getI (k := 9) rfl (by decide) (by decide +kernel) rfl (by decide +kernel) zw_179)) <|
  zA_c (zOk_fl zn_icge (zs_icge (off := 12) (by decide +kernel) (by decide))) <|
  zA_c (zOk_fl zn_aload (zs_aload_n (q := 0) rfl (by decide +kernel))) <|
  zA_c (zOk_fl zn_getR (zs_getR (k := 7) rfl (by decide) (by decide +kernel) rfl (by decide +kernel) zw_177)) <|
  zA_c (zOk_fl zn_iload (zs_iload_n (q := 1) rfl (by decide +kernel))) <|
  zA_c (zOk_fl zn_ald (zs_iald (by decide +kernel))) <|
  zA_c (zOk_fl zn_goto (zs_goto (off := 4) (by decide +kernel) (by decide))) <|
  zA_c (zOk_fl zn_push (zs_iconst (n := (-1)) (by decide +kernel) rfl)) <|
  zA_c (zs_iret (by decide +kernel) rfl) <|
  zA_n
def zc_152 : Nat → zmI := zgetC [zcl_152_0]
theorem zmf_152 (l : Launch) : zMf l zc_152 152 := ⟨by decide +kernel, false, (fun h => by cases h), fun pc => zgetC_ok (zA2_c (zmc_152_0 l) (zA2_n)) pc⟩
def zcl_153_0 : List (Nat × zmI) := [(0, zm_iload 1 1), (1, zm_iflt 4 9), (4, zm_iload 5 1), (5, zm_push 6 2), (6, zm_icle 9 12), (9, zm_push 11 (-2)), (11, zm_iret), (12, zm_aload 13 0), (13, zm_getR 16 0 10), (16, zm_aload 17 0), (17, zm_getR 20 0 0), (20, zm_push 21 2), (21, zm_aald 22 103), (22, zm_aload 23 0), (23, zm_getR 26 0 1), (26, zm_call 29 154 3 false 9), (29, zm_iload 30 1), (30, zm_lsw 72 [(0, 56), (1, 64)])]
theorem zmc_153_0 (l : Launch) : zAll l "ChessWire" prog_1_method_22_code 2 false (some .int) zcl_153_0 :=
  zA_c (zOk_fl zn_iload (zs_iload_n (q := 1) rfl (by decide +kernel))) <|
  zA_c (zOk_fl zn_iflt (zs_iflt (off := 8) (by decide +kernel) (by decide))) <|
  zA_c (zOk_fl zn_iload (zs_iload_n (q := 1) rfl (by decide +kernel))) <|
  zA_c (zOk_fl zn_push (zs_iconst (n := 2) (by decide +kernel) rfl)) <|
  zA_c (zOk_fl zn_icle (zs_icle (off := 6) (by decide +kernel) (by decide))) <|
  zA_c (zOk_fl zn_push (zs_bipush (n := (-2)) (by decide +kernel) rfl)) <|
  zA_c (zs_iret (by decide +kernel) rfl) <|
  zA_c (zOk_fl zn_aload (zs_aload_n (q := 0) rfl (by decide +kernel))) <|
  zA_c (zOk_fl zn_getR (zs_getR (k := 10) rfl (by decide) (by decide +kernel) rfl (by decide +kernel) zw_313)) <|
  zA_c (zOk_fl zn_aload (zs_aload_n (q := 0) rfl (by decide +kernel))) <|
  zA_c (zOk_fl zn_getR (zs_getR (k := 0) rfl (by decide) (by decide +kernel) rfl (by decide +kernel) zw_303)) <|
  zA_c (zOk_fl zn_push (zs_iconst (n := 2) (by decide +kernel) rfl)) <|
  zA_c (zOk_fl zn_aald (zs_aald (t := 3) (by decide) (by decide) rfl rfl (by decide +kernel))) <|
  zA_c (zOk_fl zn_aload (zs_aload_n (q := 0) rfl (by decide +kernel))) <|
  zA_c (zOk_fl zn_getR (zs_getR (k := 1) rfl (by decide) (by decide +kernel) rfl (by decide +kernel) zw_304)) <|
  zA_c (zk_V zq_154 zw_946 rfl (by decide +kernel)) <|
  zA_c (zOk_fl zn_iload (zs_iload_n (q := 1) rfl (by decide +kernel))) <|
  zA_c (zOk_fl zn_lsw (zs_lsw (d0 := 42) (ps := #[(0, 26), (1, 34)]) (len := 26) (by decide +kernel) (by decide) (by decide) (by decide +kernel))) <|
  zA_n
def zcl_153_1 : List (Nat × zmI) := [(56, zm_aload 57 0), (57, zm_getR 60 0 10), (60, zm_call 63 157 1 true 9), (63, zm_iret)]
theorem zmc_153_1 (l : Launch) : zAll l "ChessWire" prog_1_method_22_code 2 false (some .int) zcl_153_1 :=
  zA_c (zOk_fl zn_aload (zs_aload_n (q := 0) rfl (by decide +kernel))) <|
  zA_c (zOk_fl zn_getR (zs_getR (k := 10) rfl (by decide) (by decide +kernel) rfl (by decide +kernel) zw_313)) <|
  zA_c (zk_V zq_157 zw_966 rfl (by decide +kernel)) <|
  zA_c (zs_iret (by decide +kernel) rfl) <|
  zA_n
def zcl_153_2 : List (Nat × zmI) := [(64, zm_aload 65 0), (65, zm_getR 68 0 10), (68, zm_call 71 158 1 true 9), (71, zm_iret), (72, zm_aload 73 0), (73, zm_getR 76 0 10), (76, zm_call 79 159 1 true 9), (79, zm_iret)]
theorem zmc_153_2 (l : Launch) : zAll l "ChessWire" prog_1_method_22_code 2 false (some .int) zcl_153_2 :=
  zA_c (zOk_fl zn_aload (zs_aload_n (q := 0) rfl (by decide +kernel))) <|
  zA_c (zOk_fl zn_getR (zs_getR (k := 10) rfl (by decide) (by decide +kernel) rfl (by decide +kernel) zw_313)) <|
  zA_c (zk_V zq_158 zw_970 rfl (by decide +kernel)) <|
  zA_c (zs_iret (by decide +kernel) rfl) <|
  zA_c (zOk_fl zn_aload (zs_aload_n (q := 0) rfl (by decide +kernel))) <|
  zA_c (zOk_fl zn_getR (zs_getR (k := 10) rfl (by decide) (by decide +kernel) rfl (by decide +kernel) zw_313)) <|
  zA_c (zk_V zq_159 zw_974 rfl (by decide +kernel)) <|
  zA_c (zs_iret (by decide +kernel) rfl) <|
  zA_n
def zc_153 : Nat → zmI := zgetC [zcl_153_0, zcl_153_1, zcl_153_2]
theorem zmf_153 (l : Launch) : zMf l zc_153 153 := ⟨by decide +kernel, false, (fun h => by cases h), fun pc => zgetC_ok (zA2_c (zmc_153_0 l) (zA2_c (zmc_153_1 l) (zA2_c (zmc_153_2 l) (zA2_n)))) pc⟩
def zcl_154_0 : List (Nat × zmI) := [(0, zm_aload 1 0), (1, zm_aload 2 1), (2, zm_call 5 155 2 false 9), (5, zm_aload 6 0), (6, zm_getR 9 9 3), (9, zm_aload 10 2), (10, zm_call 13 136 2 false 2), (13, zm_aload 14 0), (14, zm_push 15 0), (15, zm_putI 18 9 6), (18, zm_push 19 0), (19, zm_istore 20 3), (20, zm_iload 21 3), (21, zm_aload 22 0), (22, zm_getI 25 9 5), (25, zm_icge 28 96), (28, zm_aload 29 0), (29, zm_iload 30 3), (30, zm_aload 31 0), (31, zm_getR 34 9 3)]
theorem zmc_154_0 (l : Launch) : zAll l "ChessWire$Game" prog_7_method_6_code 4 false (none) zcl_154_0 :=
  zA_c (zOk_fl zn_aload (zs_aload_n (q := 0) rfl (by decide +kernel))) <|
  zA_c (zOk_fl zn_aload (zs_aload_n (q := 1) rfl (by decide +kernel))) <|
  zA_c (zk_V zq_155 zw_950 rfl (by decide +kernel)) <|
  zA_c (zOk_fl zn_aload (zs_aload_n (q := 0) rfl (by decide +kernel))) <|
  zA_c (zOk_fl zn_getR (zs_getR (k := 3) rfl (by decide) (by decide +kernel) rfl (by decide +kernel) zw_223)) <|
  zA_c (zOk_fl zn_aload (zs_aload_n (q := 2) rfl (by decide +kernel))) <|
  zA_c (zk_V zq_136 zw_956 rfl (by decide +kernel)) <|
  zA_c (zOk_fl zn_aload (zs_aload_n (q := 0) rfl (by decide +kernel))) <|
  zA_c (zOk_fl zn_push (zs_iconst (n := 0) (by decide +kernel) rfl)) <|
  zA_c (zOk_sn zn_putI (zs_putI (k := 6) rfl (by decide) (by decide +kernel) rfl rfl (by decide +kernel) zw_226)) <|
  zA_c (zOk_fl zn_push (zs_iconst (n := 0) (by decide +kernel) rfl)) <|
  zA_c (zOk_fl zn_istore (zs_istore_n (q := 3) rfl (by decide +kernel))) <|
  zA_c (zOk_fl zn_iload (zs_iload_n (q := 3) rfl (by decide +kernel))) <|
  zA_c (zOk_fl zn_aload (zs_aload_n (q := 0) rfl (by decide +kernel))) <|
  zA_c (zOk_fl zn_getI (zs_getI (k := 5) rfl (by decide) (by decide +kernel) rfl (by decide +kernel) zw_225)) <|
  zA_c (zOk_fl zn_icge (zs_icge (off := 71) (by decide +kernel) (by decide))) <|
  zA_c (zOk_fl zn_aload (zs_aload_n (q := 0) rfl (by decide +kernel))) <|
  zA_c (zOk_fl zn_iload (zs_iload_n (q := 3) rfl (by decide +kernel))) <|
  zA_c (zOk_fl zn_aload (zs_aload_n (q := 0) rfl (by decide +kernel))) <|
  zA_c (zOk_fl zn_getR (zs_getR (k := 3) rfl (by decide) (by decide +kernel) rfl (by decide +kernel) zw_223)) <|
  zA_n
def zcl_154_1 : List (Nat × zmI) := [(34, zm_aload 35 0), (35, zm_getR 38 9 4), (38, zm_call 41 156 4 false 9), (41, zm_aload 42 0), (42, zm_getR 45 9 4), (45, zm_call 48 90 1 true 5), (48, zm_push 49 1), (49, zm_iceq 52 53), (52, zm_vret), (53, zm_aload 54 0), (54, zm_getR 57 9 2), (57, zm_iload 58 3), (58, zm_aload 59 0), (59, zm_getR 62 9 4), (62, zm_push 63 0), (63, zm_call 66 97 2 true 5)]
theorem zmc_154_1 (l : Launch) : zAll l "ChessWire$Game" prog_7_method_6_code 4 false (none) zcl_154_1 :=
  zA_c (zOk_fl zn_aload (zs_aload_n (q := 0) rfl (by decide +kernel))) <|
  zA_c (zOk_fl zn_getR (zs_getR (k := 4) rfl (by decide) (by decide +kernel) rfl (by decide +kernel) zw_224)) <|
  zA_c (zk_V zq_156 zw_957 rfl (by decide +kernel)) <|
  zA_c (zOk_fl zn_aload (zs_aload_n (q := 0) rfl (by decide +kernel))) <|
  zA_c (zOk_fl zn_getR (zs_getR (k := 4) rfl (by decide) (by decide +kernel) rfl (by decide +kernel) zw_224)) <|
  zA_c (zk_V zq_90 zw_963 rfl (by decide +kernel)) <|
  zA_c (zOk_fl zn_push (zs_iconst (n := 1) (by decide +kernel) rfl)) <|
  zA_c (zOk_fl zn_iceq (zs_iceq (off := 4) (by decide +kernel) (by decide))) <|
  zA_c (zs_vret (by decide +kernel) rfl) <|
  zA_c (zOk_fl zn_aload (zs_aload_n (q := 0) rfl (by decide +kernel))) <|
  zA_c (zOk_fl zn_getR (zs_getR (k := 2) rfl (by decide) (by decide +kernel) rfl (by decide +kernel) zw_222)) <|
  zA_c (zOk_fl zn_iload (zs_iload_n (q := 3) rfl (by decide +kernel))) <|
  zA_c (zOk_fl zn_aload (zs_aload_n (q := 0) rfl (by decide +kernel))) <|
  zA_c (zOk_fl zn_getR (zs_getR (k := 4) rfl (by decide) (by decide +kernel) rfl (by decide +kernel) zw_224)) <|
  zA_c (zOk_fl zn_push (zs_iconst (n := 0) (by decide +kernel) rfl)) <|
  zA_c (zk_V zq_97 zw_964 rfl (by decide +kernel)) <|
  zA_n
def zcl_154_2 : List (Nat × zmI) := [(66, zm_iast 67), (67, zm_aload 68 0), (68, zm_getR 71 9 3), (71, zm_aload 72 0), (72, zm_getR 75 9 2), (75, zm_iload 76 3), (76, zm_ald 77 100), (77, zm_call 80 108 2 false 2), (80, zm_aload 81 0), (81, zm_dup 82), (82, zm_getI 85 9 6), (85, zm_push 86 1), (86, zm_bin 87 (fun x y => w32 (x + y))), (87, zm_putI 90 9 6), (90, zm_iinc 93 3 1), (93, zm_goto 20)]
theorem zmc_154_2 (l : Launch) : zAll l "ChessWire$Game" prog_7_method_6_code 4 false (none) zcl_154_2 :=
  zA_c (zOk_sn zn_iast (zs_iast (by decide +kernel))) <|
  zA_c (zOk_fl zn_aload (zs_aload_n (q := 0) rfl (by decide +kernel))) <|
  zA_c (zOk_fl zn_getR (zs_getR (k := 3) rfl (by decide) (by decide +kernel) rfl (by decide +kernel) zw_223)) <|
  zA_c (zOk_fl zn_aload (zs_aload_n (q := 0) rfl (by decide +kernel))) <|
  zA_c (zOk_fl zn_getR (zs_getR (k := 2) rfl (by decide) (by decide +kernel) rfl (by decide +kernel) zw_222)) <|
  zA_c (zOk_fl zn_iload (zs_iload_n (q := 3) rfl (by decide +kernel))) <|
  zA_c (zOk_fl zn_ald (zs_iald (by decide +kernel))) <|
  zA_c (zk_V zq_108 zw_965 rfl (by decide +kernel)) <|
  zA_c (zOk_fl zn_aload (zs_aload_n (q := 0) rfl (by decide +kernel))) <|
  zA_c (zOk_fl zn_dup (zs_dup (by decide +kernel))) <|
  zA_c (zOk_fl zn_getI (zs_getI (k := 6) rfl (by decide) (by decide +kernel) rfl (by decide +kernel) zw_226)) <|
  zA_c (zOk_fl zn_push (zs_iconst (n := 1) (by decide +kernel) rfl)) <|
  zA_c (zOk_fl zn_bin (zs_iadd (by decide +kernel))) <|
  zA_c (zOk_sn zn_putI (zs_putI (k := 6) rfl (by decide) (by decide +kernel) rfl rfl (by decide +kernel) zw_226)) <|
  zA_c (zOk_fl zn_iinc (zs_iinc rfl (by decide +kernel))) <|
  zA_c (zOk_fl zn_goto (zs_goto (off := (-73)) (by decide +kernel) (by decide))) <|
  zA_n
def zcl_154_3 : List (Nat × zmI) := [(96, zm_vret)]
theorem zmc_154_3 (l : Launch) : zAll l "ChessWire$Game" prog_7_method_6_code 4 false (none) zcl_154_3 :=
  zA_c (zs_vret (by decide +kernel) rfl) <|
  zA_n
def zc_154 : Nat → zmI := zgetC [zcl_154_0, zcl_154_1, zcl_154_2, zcl_154_3]
theorem zmf_154 (l : Launch) : zMf l zc_154 154 := ⟨by decide +kernel, false, (fun h => by cases h), fun pc => zgetC_ok (zA2_c (zmc_154_0 l) (zA2_c (zmc_154_1 l) (zA2_c (zmc_154_2 l) (zA2_c (zmc_154_3 l) (zA2_n))))) pc⟩
def zcl_155_0 : List (Nat × zmI) := [(0, zm_aload 1 0), (1, zm_push 2 0), (2, zm_putI 5 9 5), (5, zm_aload 6 1), (6, zm_call 9 22 1 true 1), (9, zm_ifeq 12 20), (12, zm_aload 13 1), (13, zm_call 16 61 1 true 99), (16, zm_push 17 (-1)), (17, zm_iceq 20 21), (20, zm_vret), (21, zm_push 22 0), (22, zm_istore 23 2), (23, zm_push 24 0), (24, zm_istore 25 3), (25, zm_iload 26 3), (26, zm_aload 27 1), (27, zm_call 30 22 1 true 1), (30, zm_icgt 33 119)]
theorem zmc_155_0 (l : Launch) : zAll l "ChessWire$Game" prog_7_method_3_code 5 false (none) zcl_155_0 :=
  zA_c (zOk_fl zn_aload (zs_aload_n (q := 0) rfl (by decide +kernel))) <|
  zA_c (zOk_fl zn_push (zs_iconst (n := 0) (by decide +kernel) rfl)) <|
  zA_c (zOk_sn zn_putI (zs_putI (k := 5) rfl (by decide) (by decide +kernel) rfl rfl (by decide +kernel) zw_225)) <|
  zA_c (zOk_fl zn_aload (zs_aload_n (q := 1) rfl (by decide +kernel))) <|
  zA_c (zk_V zq_22 zw_546 rfl (by decide +kernel)) <|
  zA_c (zOk_fl zn_ifeq (zs_ifeq (off := 11) (by decide +kernel) (by decide))) <|
  zA_c (zOk_fl zn_aload (zs_aload_n (q := 1) rfl (by decide +kernel))) <|
  zA_c (zk_S zq_61 zw_954 (by decide +kernel)) <|
  zA_c (zOk_fl zn_push (zs_iconst (n := (-1)) (by decide +kernel) rfl)) <|
  zA_c (zOk_fl zn_iceq (zs_iceq (off := 4) (by decide +kernel) (by decide))) <|
  zA_c (zs_vret (by decide +kernel) rfl) <|
  zA_c (zOk_fl zn_push (zs_iconst (n := 0) (by decide +kernel) rfl)) <|
  zA_c (zOk_fl zn_istore (zs_istore_n (q := 2) rfl (by decide +kernel))) <|
  zA_c (zOk_fl zn_push (zs_iconst (n := 0) (by decide +kernel) rfl)) <|
  zA_c (zOk_fl zn_istore (zs_istore_n (q := 3) rfl (by decide +kernel))) <|
  zA_c (zOk_fl zn_iload (zs_iload_n (q := 3) rfl (by decide +kernel))) <|
  zA_c (zOk_fl zn_aload (zs_aload_n (q := 1) rfl (by decide +kernel))) <|
  zA_c (zk_V zq_22 zw_546 rfl (by decide +kernel)) <|
  zA_c (zOk_fl zn_icgt (zs_icgt (off := 89) (by decide +kernel) (by decide))) <|
  zA_n
def zcl_155_1 : List (Nat × zmI) := [(33, zm_iload 34 3), (34, zm_aload 35 1), (35, zm_call 38 22 1 true 1), (38, zm_iceq 41 51), (41, zm_aload 42 1), (42, zm_iload 43 3), (43, zm_call 46 23 2 true 1), (46, zm_push 48 59), (48, zm_icne 51 55), (51, zm_push 52 1), (52, zm_goto 56), (55, zm_push 56 0), (56, zm_istore 58 4), (58, zm_iload 60 4), (60, zm_ifeq 63 113), (63, zm_aload 64 0)]
theorem zmc_155_1 (l : Launch) : zAll l "ChessWire$Game" prog_7_method_3_code 5 false (none) zcl_155_1 :=
  zA_c (zOk_fl zn_iload (zs_iload_n (q := 3) rfl (by decide +kernel))) <|
  zA_c (zOk_fl zn_aload (zs_aload_n (q := 1) rfl (by decide +kernel))) <|
  zA_c (zk_V zq_22 zw_546 rfl (by decide +kernel)) <|
  zA_c (zOk_fl zn_iceq (zs_iceq (off := 13) (by decide +kernel) (by decide))) <|
  zA_c (zOk_fl zn_aload (zs_aload_n (q := 1) rfl (by decide +kernel))) <|
  zA_c (zOk_fl zn_iload (zs_iload_n (q := 3) rfl (by decide +kernel))) <|
  zA_c (zk_V zq_23 zw_547 rfl (by decide +kernel)) <|
  zA_c (zOk_fl zn_push (zs_bipush (n := 59) (by decide +kernel) rfl)) <|
  zA_c (zOk_fl zn_icne (zs_icne (off := 7) (by decide +kernel) (by decide))) <|
  zA_c (zOk_fl zn_push (zs_iconst (n := 1) (by decide +kernel) rfl)) <|
  zA_c (zOk_fl zn_goto (zs_goto (off := 4) (by decide +kernel) (by decide))) <|
  zA_c (zOk_fl zn_push (zs_iconst (n := 0) (by decide +kernel) rfl)) <|
  zA_c (zOk_fl zn_istore (zs_istore (by decide +kernel))) <|
  zA_c (zOk_fl zn_iload (zs_iload (by decide +kernel))) <|
  zA_c (zOk_fl zn_ifeq (zs_ifeq (off := 53) (by decide +kernel) (by decide))) <|
  zA_c (zOk_fl zn_aload (zs_aload_n (q := 0) rfl (by decide +kernel))) <|
  zA_n
def zcl_155_2 : List (Nat × zmI) := [(64, zm_getI 67 9 5), (67, zm_push 69 12), (69, zm_icge 72 113), (72, zm_aload 73 0), (73, zm_getR 76 9 0), (76, zm_aload 77 0), (77, zm_getI 80 9 5), (80, zm_aald 81 104), (81, zm_aload 82 1), (82, zm_iload 83 2), (83, zm_iload 84 3), (84, zm_call 87 123 4 false 4), (87, zm_aload 88 0), (88, zm_getR 91 9 1), (91, zm_aload 92 0), (92, zm_getI 95 9 5), (95, zm_iload 96 3)]
theorem zmc_155_2 (l : Launch) : zAll l "ChessWire$Game" prog_7_method_3_code 5 false (none) zcl_155_2 :=
  zA_c (zOk_fl zn_getI (zs_getI (k := 5) rfl (by decide) (by decide +kernel) rfl (by decide +kernel) zw_225)) <|
  zA_c (zOk_fl zn_push (zs_bipush (n := 12) (by decide +kernel) rfl)) <|
  zA_c (zOk_fl zn_icge (zs_icge (off := 44) (by decide +kernel) (by decide))) <|
  zA_c (zOk_fl zn_aload (zs_aload_n (q := 0) rfl (by decide +kernel))) <|
  zA_c (zOk_fl zn_getR (zs_getR (k := 0) rfl (by decide) (by decide +kernel) rfl (by decide +kernel) zw_220)) <|
  zA_c (zOk_fl zn_aload (zs_aload_n (q := 0) rfl (by decide +kernel))) <|
  zA_c (zOk_fl zn_getI (zs_getI (k := 5) rfl (by decide) (by decide +kernel) rfl (by decide +kernel) zw_225)) <|
  zA_c (zOk_fl zn_aald (zs_aald (t := 4) (by decide) (by decide) rfl rfl (by decide +kernel))) <|
  zA_c (zOk_fl zn_aload (zs_aload_n (q := 1) rfl (by decide +kernel))) <|
  zA_c (zOk_fl zn_iload (zs_iload_n (q := 2) rfl (by decide +kernel))) <|
  zA_c (zOk_fl zn_iload (zs_iload_n (q := 3) rfl (by decide +kernel))) <|
  zA_c (zk_V zq_123 zw_955 rfl (by decide +kernel)) <|
  zA_c (zOk_fl zn_aload (zs_aload_n (q := 0) rfl (by decide +kernel))) <|
  zA_c (zOk_fl zn_getR (zs_getR (k := 1) rfl (by decide) (by decide +kernel) rfl (by decide +kernel) zw_221)) <|
  zA_c (zOk_fl zn_aload (zs_aload_n (q := 0) rfl (by decide +kernel))) <|
  zA_c (zOk_fl zn_getI (zs_getI (k := 5) rfl (by decide) (by decide +kernel) rfl (by decide +kernel) zw_225)) <|
  zA_c (zOk_fl zn_iload (zs_iload_n (q := 3) rfl (by decide +kernel))) <|
  zA_n
def zcl_155_3 : List (Nat × zmI) := [(96, zm_iload 97 2), (97, zm_bin 98 (fun x y => w32 (x - y))), (98, zm_iast 99), (99, zm_aload 100 0), (100, zm_dup 101), (101, zm_getI 104 9 5), (104, zm_push 105 1), (105, zm_bin 106 (fun x y => w32 (x + y))), (106, zm_putI 109 9 5), (109, zm_iload 110 3), (110, zm_push 111 1), (111, zm_bin 112 (fun x y => w32 (x + y))), (112, zm_istore 113 2), (113, zm_iinc 116 3 1), (116, zm_goto 25), (119, zm_vret)]
theorem zmc_155_3 (l : Launch) : zAll l "ChessWire$Game" prog_7_method_3_code 5 false (none) zcl_155_3 :=
  zA_c (zOk_fl zn_iload (zs_iload_n (q := 2) rfl (by decide +kernel))) <|
  zA_c (zOk_fl zn_bin (zs_isub (by decide +kernel))) <|
  zA_c (zOk_sn zn_iast (zs_iast (by decide +kernel))) <|
  zA_c (zOk_fl zn_aload (zs_aload_n (q := 0) rfl (by decide +kernel))) <|
  zA_c (zOk_fl zn_dup (zs_dup (by decide +kernel))) <|
  zA_c (zOk_fl zn_getI (zs_getI (k := 5) rfl (by decide) (by decide +kernel) rfl (by decide +kernel) zw_225)) <|
  zA_c (zOk_fl zn_push (zs_iconst (n := 1) (by decide +kernel) rfl)) <|
  zA_c (zOk_fl zn_bin (zs_iadd (by decide +kernel))) <|
  zA_c (zOk_sn zn_putI (zs_putI (k := 5) rfl (by decide) (by decide +kernel) rfl rfl (by decide +kernel) zw_225)) <|
  zA_c (zOk_fl zn_iload (zs_iload_n (q := 3) rfl (by decide +kernel))) <|
  zA_c (zOk_fl zn_push (zs_iconst (n := 1) (by decide +kernel) rfl)) <|
  zA_c (zOk_fl zn_bin (zs_iadd (by decide +kernel))) <|
  zA_c (zOk_fl zn_istore (zs_istore_n (q := 2) rfl (by decide +kernel))) <|
  zA_c (zOk_fl zn_iinc (zs_iinc rfl (by decide +kernel))) <|
  zA_c (zOk_fl zn_goto (zs_goto (off := (-91)) (by decide +kernel) (by decide))) <|
  zA_c (zs_vret (by decide +kernel) rfl) <|
  zA_n
def zc_155 : Nat → zmI := zgetC [zcl_155_0, zcl_155_1, zcl_155_2, zcl_155_3]
theorem zmf_155 (l : Launch) : zMf l zc_155 155 := ⟨by decide +kernel, false, (fun h => by cases h), fun pc => zgetC_ok (zA2_c (zmc_155_0 l) (zA2_c (zmc_155_1 l) (zA2_c (zmc_155_2 l) (zA2_c (zmc_155_3 l) (zA2_n))))) pc⟩
def zcl_156_0 : List (Nat × zmI) := [(0, zm_iload 1 1), (1, zm_iflt 4 26), (4, zm_iload 5 1), (5, zm_aload 6 0), (6, zm_getI 9 9 5), (9, zm_icge 12 26), (12, zm_aload 13 2), (13, zm_aload 14 3), (14, zm_aload 15 0), (15, zm_getR 18 9 0), (18, zm_iload 19 1), (19, zm_aald 20 104), (20, zm_call 23 75 3 false 2), (23, zm_goto 30), (26, zm_aload 27 3), (27, zm_call 30 76 1 false 5), (30, zm_vret)]
theorem zmc_156_0 (l : Launch) : zAll l "ChessWire$Game" prog_7_method_5_code 4 false (none) zcl_156_0 :=
  zA_c (zOk_fl zn_iload (zs_iload_n (q := 1) rfl (by decide +kernel))) <|
  zA_c (zOk_fl zn_iflt (zs_iflt (off := 25) (by decide +kernel) (by decide))) <|
  zA_c (zOk_fl zn_iload (zs_iload_n (q := 1) rfl (by decide +kernel))) <|
  zA_c (zOk_fl zn_aload (zs_aload_n (q := 0) rfl (by decide +kernel))) <|
  zA_c (zOk_fl zn_getI (zs_getI (k := 5) rfl (by decide) (by decide +kernel) rfl (by decide +kernel) zw_225)) <|
  zA_c (zOk_fl zn_icge (zs_icge (off := 17) (by decide +kernel) (by decide))) <|
  zA_c (zOk_fl zn_aload (zs_aload_n (q := 2) rfl (by decide +kernel))) <|
  zA_c (zOk_fl zn_aload (zs_aload_n (q := 3) rfl (by decide +kernel))) <|
  zA_c (zOk_fl zn_aload (zs_aload_n (q := 0) rfl (by decide +kernel))) <|
  zA_c (zOk_fl zn_getR (zs_getR (k := 0) rfl (by decide) (by decide +kernel) rfl (by decide +kernel) zw_220)) <|
  zA_c (zOk_fl zn_iload (zs_iload_n (q := 1) rfl (by decide +kernel))) <|
  zA_c (zOk_fl zn_aald (zs_aald (t := 4) (by decide) (by decide) rfl rfl (by decide +kernel))) <|
  zA_c (zk_V zq_75 zw_961 rfl (by decide +kernel)) <|
  zA_c (zOk_fl zn_goto (zs_goto (off := 7) (by decide +kernel) (by decide))) <|
  zA_c (zOk_fl zn_aload (zs_aload_n (q := 3) rfl (by decide +kernel))) <|
  zA_c (zk_V zq_76 zw_962 rfl (by decide +kernel)) <|
  zA_c (zs_vret (by decide +kernel) rfl) <|
  zA_n
def zc_156 : Nat → zmI := zgetC [zcl_156_0]
theorem zmf_156 (l : Launch) : zMf l zc_156 156 := ⟨by decide +kernel, false, (fun h => by cases h), fun pc => zgetC_ok (zA2_c (zmc_156_0 l) (zA2_n)) pc⟩
def zcl_157_0 : List (Nat × zmI) := [(0, zm_aload 1 0), (1, zm_getI 4 9 6), (4, zm_aload 5 0), (5, zm_getI 8 9 5), (8, zm_icge 11 18), (11, zm_aload 12 0), (12, zm_getI 15 9 6), (15, zm_goto 19), (18, zm_push 19 (-1)), (19, zm_iret)]
theorem zmc_157_0 (l : Launch) : zAll l "ChessWire$Game" prog_7_method_7_code 1 false (some .int) zcl_157_0 :=
  zA_c (zOk_fl zn_aload (zs_aload_n (q := 0) rfl (by decide +kernel))) <|
  zA_c (zOk_fl zn_getI (zs_getI (k := 6) rfl (by decide) (by decide +kernel) rfl (by decide +kernel) zw_226)) <|
  zA_c (zOk_fl zn_aload (zs_aload_n (q := 0) rfl (by decide +kernel))) <|
  zA_c (zOk_fl zn_getI (zs_getI (k := 5) rfl (by decide) (by decide +kernel) rfl (by decide +kernel) zw_225)) <|
  zA_c (zOk_fl zn_icge (zs_icge (off := 10) (by decide +kernel) (by decide))) <|
  zA_c (zOk_fl zn_aload (zs_aload_n (q := 0) rfl (by decide +kernel))) <|
  zA_c (zOk_fl zn_getI (zs_getI (k := 6) rfl (by decide) (by decide +kernel) rfl (by decide +kernel) zw_226)) <|
  zA_c (zOk_fl zn_goto (zs_goto (off := 4) (by decide +kernel) (by decide))) <|
  zA_c (zOk_fl zn_push (zs_iconst (n := (-1)) (by decide +kernel) rfl)) <|
  zA_c (zs_iret (by decide +kernel) rfl) <|
  zA_n
def zc_157 : Nat → zmI := zgetC [zcl_157_0]
theorem zmf_157 (l : Launch) : zMf l zc_157 157 := ⟨by decide +kernel, false, (fun h => by cases h), fun pc => zgetC_ok (zA2_c (zmc_157_0 l) (zA2_n)) pc⟩
def zcl_158_0 : List (Nat × zmI) := [(0, zm_aload 1 0), (1, zm_getI 4 9 6), (4, zm_iret)]
theorem zmc_158_0 (l : Launch) : zAll l "ChessWire$Game" prog_7_method_8_code 1 false (some .int) zcl_158_0 :=
  zA_c (zOk_fl zn_aload (zs_aload_n (q := 0) rfl (by decide +kernel))) <|
  zA_c (zOk_fl zn_getI (zs_getI (k := 6) rfl (by decide) (by decide +kernel) rfl (by decide +kernel) zw_226)) <|
  zA_c (zs_iret (by decide +kernel) rfl) <|
  zA_n
def zc_158 : Nat → zmI := zgetC [zcl_158_0]
theorem zmf_158 (l : Launch) : zMf l zc_158 158 := ⟨by decide +kernel, false, (fun h => by cases h), fun pc => zgetC_ok (zA2_c (zmc_158_0 l) (zA2_n)) pc⟩
def zcl_159_0 : List (Nat × zmI) := [(0, zm_push 1 0), (1, zm_istore 2 1), (2, zm_push 3 0), (3, zm_istore 4 2), (4, zm_iload 5 2), (5, zm_aload 6 0), (6, zm_getI 9 9 6), (9, zm_icge 12 27), (12, zm_iload 13 1), (13, zm_aload 14 0), (14, zm_getR 17 9 1), (17, zm_iload 18 2), (18, zm_ald 19 100), (19, zm_bin 20 (fun x y => w32 (x + y))), (20, zm_istore 21 1), (21, zm_iinc 24 2 1), (24, zm_goto 4), (27, zm_iload 28 1), (28, zm_iret)]
theorem zmc_159_0 (l : Launch) : zAll l "ChessWire$Game" prog_7_method_10_code 3 false (some .int) zcl_159_0 :=
  zA_c (zOk_fl zn_push (zs_iconst (n := 0) (by decide +kernel) rfl)) <|
  zA_c (zOk_fl zn_istore (zs_istore_n (q := 1) rfl (by decide +kernel))) <|
  zA_c (zOk_fl zn_push (zs_iconst (n := 0) (by decide +kernel) rfl)) <|
  zA_c (zOk_fl zn_istore (zs_istore_n (q := 2) rfl (by decide +kernel))) <|
  zA_c (zOk_fl zn_iload (zs_iload_n (q := 2) rfl (by decide +kernel))) <|
  zA_c (zOk_fl zn_aload (zs_aload_n (q := 0) rfl (by decide +kernel))) <|
  zA_c (zOk_fl zn_getI (zs_getI (k := 6) rfl (by decide) (by decide +kernel) rfl (by decide +kernel) zw_226)) <|
  zA_c (zOk_fl zn_icge (zs_icge (off := 18) (by decide +kernel) (by decide))) <|
  zA_c (zOk_fl zn_iload (zs_iload_n (q := 1) rfl (by decide +kernel))) <|
  zA_c (zOk_fl zn_aload (zs_aload_n (q := 0) rfl (by decide +kernel))) <|
  zA_c (zOk_fl zn_getR (zs_getR (k := 1) rfl (by decide) (by decide +kernel) rfl (by decide +kernel) zw_221)) <|
  zA_c (zOk_fl zn_iload (zs_iload_n (q := 2) rfl (by decide +kernel))) <|
  zA_c (zOk_fl zn_ald (zs_iald (by decide +kernel))) <|
  zA_c (zOk_fl zn_bin (zs_iadd (by decide +kernel))) <|
  zA_c (zOk_fl zn_istore (zs_istore_n (q := 1) rfl (by decide +kernel))) <|
  zA_c (zOk_fl zn_iinc (zs_iinc rfl (by decide +kernel))) <|
  zA_c (zOk_fl zn_goto (zs_goto (off := (-20)) (by decide +kernel) (by decide))) <|
  zA_c (zOk_fl zn_iload (zs_iload_n (q := 1) rfl (by decide +kernel))) <|
  zA_c (zs_iret (by decide +kernel) rfl) <|
  zA_n
def zc_159 : Nat → zmI := zgetC [zcl_159_0]
theorem zmf_159 (l : Launch) : zMf l zc_159 159 := ⟨by decide +kernel, false, (fun h => by cases h), fun pc => zgetC_ok (zA2_c (zmc_159_0 l) (zA2_n)) pc⟩
def zcl_160_0 : List (Nat × zmI) := [(0, zm_iload 1 1), (1, zm_ifge 4 7), (4, zm_push 6 (-2)), (6, zm_iret), (7, zm_aload 8 0), (8, zm_getR 11 0 10), (11, zm_aload 12 0), (12, zm_getR 15 0 0), (15, zm_push 16 2), (16, zm_aald 17 103), (17, zm_aload 18 0), (18, zm_getR 21 0 1), (21, zm_call 24 154 3 false 9), (24, zm_aload 25 0), (25, zm_getR 28 0 10), (28, zm_iload 29 1), (29, zm_call 32 161 2 true 9)]
theorem zmc_160_0 (l : Launch) : zAll l "ChessWire" prog_1_method_23_code 2 false (some .int) zcl_160_0 :=
  zA_c (zOk_fl zn_iload (zs_iload_n (q := 1) rfl (by decide +kernel))) <|
  zA_c (zOk_fl zn_ifge (zs_ifge (off := 6) (by decide +kernel) (by decide))) <|
  zA_c (zOk_fl zn_push (zs_bipush (n := (-2)) (by decide +kernel) rfl)) <|
  zA_c (zs_iret (by decide +kernel) rfl) <|
  zA_c (zOk_fl zn_aload (zs_aload_n (q := 0) rfl (by decide +kernel))) <|
  zA_c (zOk_fl zn_getR (zs_getR (k := 10) rfl (by decide) (by decide +kernel) rfl (by decide +kernel) zw_313)) <|
  zA_c (zOk_fl zn_aload (zs_aload_n (q := 0) rfl (by decide +kernel))) <|
  zA_c (zOk_fl zn_getR (zs_getR (k := 0) rfl (by decide) (by decide +kernel) rfl (by decide +kernel) zw_303)) <|
  zA_c (zOk_fl zn_push (zs_iconst (n := 2) (by decide +kernel) rfl)) <|
  zA_c (zOk_fl zn_aald (zs_aald (t := 3) (by decide) (by decide) rfl rfl (by decide +kernel))) <|
  zA_c (zOk_fl zn_aload (zs_aload_n (q := 0) rfl (by decide +kernel))) <|
  zA_c (zOk_fl zn_getR (zs_getR (k := 1) rfl (by decide) (by decide +kernel) rfl (by decide +kernel) zw_304)) <|
  zA_c (zk_V zq_154 zw_946 rfl (by decide +kernel)) <|
  zA_c (zOk_fl zn_aload (zs_aload_n (q := 0) rfl (by decide +kernel))) <|
  zA_c (zOk_fl zn_getR (zs_getR (k := 10) rfl (by decide) (by decide +kernel) rfl (by decide +kernel) zw_313)) <|
  zA_c (zOk_fl zn_iload (zs_iload_n (q := 1) rfl (by decide +kernel))) <|
  zA_c (zk_V zq_161 zw_982 rfl (by decide +kernel)) <|
  zA_n
def zcl_160_1 : List (Nat × zmI) := [(32, zm_iret)]
theorem zmc_160_1 (l : Launch) : zAll l "ChessWire" prog_1_method_23_code 2 false (some .int) zcl_160_1 :=
  zA_c (zs_iret (by decide +kernel) rfl) <|
  zA_n
def zc_160 : Nat → zmI := zgetC [zcl_160_0, zcl_160_1]
theorem zmf_160 (l : Launch) : zMf l zc_160 160 := ⟨by decide +kernel, false, (fun h => by cases h), fun pc => zgetC_ok (zA2_c (zmc_160_0 l) (zA2_c (zmc_160_1 l) (zA2_n))) pc⟩
def zcl_161_0 : List (Nat × zmI) := [(0, zm_iload 1 1), (1, zm_iflt 4 21), (4, zm_iload 5 1), (5, zm_aload 6 0), (6, zm_getI 9 9 6), (9, zm_icge 12 21), (12, zm_aload 13 0), (13, zm_getR 16 9 2), (16, zm_iload 17 1), (17, zm_ald 18 100), (18, zm_goto 22), (21, zm_push 22 (-1)), (22, zm_iret)]
theorem zmc_161_0 (l : Launch) : zAll l "ChessWire$Game" prog_7_method_9_code 2 false (some .int) zcl_161_0 :=
  zA_c (zOk_fl zn_iload (zs_iload_n (q := 1) rfl (by decide +kernel))) <|
  zA_c (zOk_fl zn_iflt (zs_iflt (off := 20) (by decide +kernel) (by decide))) <|
  zA_c (zOk_fl zn_iload (zs_iload_n (q := 1) rfl (by decide +kernel))) <|
  zA_c (zOk_fl zn_aload (zs_aload_n (q := 0) rfl (by decide +kernel))) <|
  zA_c (zOk_fl zn_getI (zs_getI (k := 6) rfl (by decide) (by decide +kernel) rfl (by decide +kernel) zw_226)) <|
  zA_c (zOk_fl zn_icge (zs_icge (off := 12) (by decide +kernel) (by decide))) <|
  zA_c (zOk_fl zn_aload (zs_aload_n (q := 0) rfl (by decide +kernel))) <|
  zA_c (zOk_fl zn_getR (zs_getR (k := 2) rfl (by decide) (by decide +kernel) rfl (by decide +kernel) zw_222)) <|
  zA_c (zOk_fl zn_iload (zs_iload_n (q := 1) rfl (by decide +kernel))) <|
  zA_c (zOk_fl zn_ald (zs_iald (by decide +kernel))) <|
  zA_c (zOk_fl zn_goto (zs_goto (off := 4) (by decide +kernel) (by decide))) <|
  zA_c (zOk_fl zn_push (zs_iconst (n := (-1)) (by decide +kernel) rfl)) <|
  zA_c (zs_iret (by decide +kernel) rfl) <|
  zA_n
def zc_161 : Nat → zmI := zgetC [zcl_161_0]
theorem zmf_161 (l : Launch) : zMf l zc_161 161 := ⟨by decide +kernel, false, (fun h => by cases h), fun pc => zgetC_ok (zA2_c (zmc_161_0 l) (zA2_n)) pc⟩
def zcl_162_0 : List (Nat × zmI) := [(0, zm_iload 1 1), (1, zm_iflt 4 10), (4, zm_iload 5 1), (5, zm_push 7 99), (7, zm_icle 10 13), (10, zm_push 12 (-2)), (12, zm_iret), (13, zm_aload 14 0), (14, zm_getR 17 0 10), (17, zm_aload 18 0), (18, zm_getR 21 0 0), (21, zm_push 22 2), (22, zm_aald 23 103), (23, zm_aload 24 0), (24, zm_getR 27 0 1), (27, zm_call 30 154 3 false 9), (30, zm_aload 31 0), (31, zm_getR 34 0 10)]
theorem zmc_162_0 (l : Launch) : zAll l "ChessWire" prog_1_method_24_code 2 false (some .int) zcl_162_0 :=
  zA_c (zOk_fl zn_iload (zs_iload_n (q := 1) rfl (by decide +kernel))) <|
  zA_c (zOk_fl zn_iflt (zs_iflt (off := 9) (by decide +kernel) (by decide))) <|
  zA_c (zOk_fl zn_iload (zs_iload_n (q := 1) rfl (by decide +kernel))) <|
  zA_c (zOk_fl zn_push (zs_bipush (n := 99) (by decide +kernel) rfl)) <|
  zA_c (zOk_fl zn_icle (zs_icle (off := 6) (by decide +kernel) (by decide))) <|
  zA_c (zOk_fl zn_push (zs_bipush (n := (-2)) (by decide +kernel) rfl)) <|
  zA_c (zs_iret (by decide +kernel) rfl) <|
  zA_c (zOk_fl zn_aload (zs_aload_n (q := 0) rfl (by decide +kernel))) <|
  zA_c (zOk_fl zn_getR (zs_getR (k := 10) rfl (by decide) (by decide +kernel) rfl (by decide +kernel) zw_313)) <|
  zA_c (zOk_fl zn_aload (zs_aload_n (q := 0) rfl (by decide +kernel))) <|
  zA_c (zOk_fl zn_getR (zs_getR (k := 0) rfl (by decide) (by decide +kernel) rfl (by decide +kernel) zw_303)) <|
  zA_c (zOk_fl zn_push (zs_iconst (n := 2) (by decide +kernel) rfl)) <|
  zA_c (zOk_fl zn_aald (zs_aald (t := 3) (by decide) (by decide) rfl rfl (by decide +kernel))) <|
  zA_c (zOk_fl zn_aload (zs_aload_n (q := 0) rfl (by decide +kernel))) <|
  zA_c (zOk_fl zn_getR (zs_getR (k := 1) rfl (by decide) (by decide +kernel) rfl (by decide +kernel) zw_304)) <|
  zA_c (zk_V zq_154 zw_946 rfl (by decide +kernel)) <|
  zA_c (zOk_fl zn_aload (zs_aload_n (q := 0) rfl (by decide +kernel))) <|
  zA_c (zOk_fl zn_getR (zs_getR (k := 10) rfl (by decide) (by decide +kernel) rfl (by decide +kernel) zw_313)) <|
  zA_n
def zcl_162_1 : List (Nat × zmI) := [(34, zm_iload 35 1), (35, zm_call 38 163 2 true 9), (38, zm_iret)]
theorem zmc_162_1 (l : Launch) : zAll l "ChessWire" prog_1_method_24_code 2 false (some .int) zcl_162_1 :=
  zA_c (zOk_fl zn_iload (zs_iload_n (q := 1) rfl (by decide +kernel))) <|
  zA_c (zk_V zq_163 zw_990 rfl (by decide +kernel)) <|
  zA_c (zs_iret (by decide +kernel) rfl) <|
  zA_n
def zc_162 : Nat → zmI := zgetC [zcl_162_0, zcl_162_1]
theorem zmf_162 (l : Launch) : zMf l zc_162 162 := ⟨by decide +kernel, false, (fun h => by cases h), fun pc => zgetC_ok (zA2_c (zmc_162_0 l) (zA2_c (zmc_162_1 l) (zA2_n))) pc⟩
def zcl_163_0 : List (Nat × zmI) := [(0, zm_push 1 0), (1, zm_istore 2 2), (2, zm_push 3 0), (3, zm_istore 4 3), (4, zm_iload 5 3), (5, zm_aload 6 0), (6, zm_getI 9 9 6), (9, zm_icge 12 34), (12, zm_iload 13 2), (13, zm_aload 14 0), (14, zm_getR 17 9 1), (17, zm_iload 18 3), (18, zm_ald 19 100), (19, zm_bin 20 (fun x y => w32 (x + y))), (20, zm_istore 21 2), (21, zm_iload 22 2), (22, zm_iload 23 1), (23, zm_icle 26 28), (26, zm_iload 27 3), (27, zm_iret), (28, zm_iinc 31 3 1), (31, zm_goto 4)]
theorem zmc_163_0 (l : Launch) : zAll l "ChessWire$Game" prog_7_method_11_code 4 false (some .int) zcl_163_0 :=
  zA_c (zOk_fl zn_push (zs_iconst (n := 0) (by decide +kernel) rfl)) <|
  zA_c (zOk_fl zn_istore (zs_istore_n (q := 2) rfl (by decide +kernel))) <|
  zA_c (zOk_fl zn_push (zs_iconst (n := 0) (by decide +kernel) rfl)) <|
  zA_c (zOk_fl zn_istore (zs_istore_n (q := 3) rfl (by decide +kernel))) <|
  zA_c (zOk_fl zn_iload (zs_iload_n (q := 3) rfl (by decide +kernel))) <|
  zA_c (zOk_fl zn_aload (zs_aload_n (q := 0) rfl (by decide +kernel))) <|
  zA_c (zOk_fl zn_getI (zs_getI (k := 6) rfl (by decide) (by decide +kernel) rfl (by decide +kernel) zw_226)) <|
  zA_c (zOk_fl zn_icge (zs_icge (off := 25) (by decide +kernel) (by decide))) <|
  zA_c (zOk_fl zn_iload (zs_iload_n (q := 2) rfl (by decide +kernel))) <|
  zA_c (zOk_fl zn_aload (zs_aload_n (q := 0) rfl (by decide +kernel))) <|
  zA_c (zOk_fl zn_getR (zs_getR (k := 1) rfl (by decide) (by decide +kernel) rfl (by decide +kernel) zw_221)) <|
  zA_c (zOk_fl zn_iload (zs_iload_n (q := 3) rfl (by decide +kernel))) <|
  zA_c (zOk_fl zn_ald (zs_iald (by decide +kernel))) <|
  zA_c (zOk_fl zn_bin (zs_iadd (by decide +kernel))) <|
  zA_c (zOk_fl zn_istore (zs_istore_n (q := 2) rfl (by decide +kernel))) <|
  zA_c (zOk_fl zn_iload (zs_iload_n (q := 2) rfl (by decide +kernel))) <|
  zA_c (zOk_fl zn_iload (zs_iload_n (q := 1) rfl (by decide +kernel))) <|
  zA_c (zOk_fl zn_icle (zs_icle (off := 5) (by decide +kernel) (by decide))) <|
  zA_c (zOk_fl zn_iload (zs_iload_n (q := 3) rfl (by decide +kernel))) <|
  zA_c (zs_iret (by decide +kernel) rfl) <|
  zA_c (zOk_fl zn_iinc (zs_iinc rfl (by decide +kernel))) <|
  zA_c (zOk_fl zn_goto (zs_goto (off := (-27)) (by decide +kernel) (by decide))) <|
  zA_n
def zcl_163_1 : List (Nat × zmI) := [(34, zm_push 35 (-1)), (35, zm_iret)]
theorem zmc_163_1 (l : Launch) : zAll l "ChessWire$Game" prog_7_method_11_code 4 false (some .int) zcl_163_1 :=
  zA_c (zOk_fl zn_push (zs_iconst (n := (-1)) (by decide +kernel) rfl)) <|
  zA_c (zs_iret (by decide +kernel) rfl) <|
  zA_n
def zc_163 : Nat → zmI := zgetC [zcl_163_0, zcl_163_1]
theorem zmf_163 (l : Launch) : zMf l zc_163 163 := ⟨by decide +kernel, false, (fun h => by cases h), fun pc => zgetC_ok (zA2_c (zmc_163_0 l) (zA2_c (zmc_163_1 l) (zA2_n))) pc⟩
def zcl_164_0 : List (Nat × zmI) := [(0, zm_aload 1 0), (1, zm_getR 4 0 10), (4, zm_aload 5 0), (5, zm_getR 8 0 0), (8, zm_push 9 2), (9, zm_aald 10 103), (10, zm_call 13 155 2 false 9), (13, zm_aload 14 0), (14, zm_getR 17 0 11), (17, zm_aload 18 0), (18, zm_getR 21 0 10), (21, zm_aload 22 0), (22, zm_getR 25 0 1), (25, zm_call 28 165 3 true 10), (28, zm_ifeq 31 41), (31, zm_aload 32 0)]
theorem zmc_164_0 (l : Launch) : zAll l "ChessWire" prog_1_method_25_code 1 false (some .int) zcl_164_0 :=
  zA_c (zOk_fl zn_aload (zs_aload_n (q := 0) rfl (by decide +kernel))) <|
  zA_c (zOk_fl zn_getR (zs_getR (k := 10) rfl (by decide) (by decide +kernel) rfl (by decide +kernel) zw_313)) <|
  zA_c (zOk_fl zn_aload (zs_aload_n (q := 0) rfl (by decide +kernel))) <|
  zA_c (zOk_fl zn_getR (zs_getR (k := 0) rfl (by decide) (by decide +kernel) rfl (by decide +kernel) zw_303)) <|
  zA_c (zOk_fl zn_push (zs_iconst (n := 2) (by decide +kernel) rfl)) <|
  zA_c (zOk_fl zn_aald (zs_aald (t := 3) (by decide) (by decide) rfl rfl (by decide +kernel))) <|
  zA_c (zk_V zq_155 zw_998 rfl (by decide +kernel)) <|
  zA_c (zOk_fl zn_aload (zs_aload_n (q := 0) rfl (by decide +kernel))) <|
  zA_c (zOk_fl zn_getR (zs_getR (k := 11) rfl (by decide) (by decide +kernel) rfl (by decide +kernel) zw_314)) <|
  zA_c (zOk_fl zn_aload (zs_aload_n (q := 0) rfl (by decide +kernel))) <|
  zA_c (zOk_fl zn_getR (zs_getR (k := 10) rfl (by decide) (by decide +kernel) rfl (by decide +kernel) zw_313)) <|
  zA_c (zOk_fl zn_aload (zs_aload_n (q := 0) rfl (by decide +kernel))) <|
  zA_c (zOk_fl zn_getR (zs_getR (k := 1) rfl (by decide) (by decide +kernel) rfl (by decide +kernel) zw_304)) <|
  zA_c (zk_V zq_165 zw_999 rfl (by decide +kernel)) <|
  zA_c (zOk_fl zn_ifeq (zs_ifeq (off := 13) (by decide +kernel) (by decide))) <|
  zA_c (zOk_fl zn_aload (zs_aload_n (q := 0) rfl (by decide +kernel))) <|
  zA_n
def zcl_164_1 : List (Nat × zmI) := [(32, zm_getR 35 0 11), (35, zm_call 38 172 1 true 10), (38, zm_goto 43), (41, zm_push 43 (-4)), (43, zm_iret)]
theorem zmc_164_1 (l : Launch) : zAll l "ChessWire" prog_1_method_25_code 1 false (some .int) zcl_164_1 :=
  zA_c (zOk_fl zn_getR (zs_getR (k := 11) rfl (by decide) (by decide +kernel) rfl (by decide +kernel) zw_314)) <|
  zA_c (zk_V zq_172 zw_1031 rfl (by decide +kernel)) <|
  zA_c (zOk_fl zn_goto (zs_goto (off := 5) (by decide +kernel) (by decide))) <|
  zA_c (zOk_fl zn_push (zs_bipush (n := (-4)) (by decide +kernel) rfl)) <|
  zA_c (zs_iret (by decide +kernel) rfl) <|
  zA_n
def zc_164 : Nat → zmI := zgetC [zcl_164_0, zcl_164_1]
theorem zmf_164 (l : Launch) : zMf l zc_164 164 := ⟨by decide +kernel, false, (fun h => by cases h), fun pc => zgetC_ok (zA2_c (zmc_164_0 l) (zA2_c (zmc_164_1 l) (zA2_n))) pc⟩
def zcl_165_0 : List (Nat × zmI) := [(0, zm_aload 1 1), (1, zm_call 4 166 1 true 9), (4, zm_push 5 3), (5, zm_icle 8 10), (8, zm_push 9 0), (9, zm_zret), (10, zm_aload 11 0), (11, zm_getR 14 10 5), (14, zm_pushl 15 0), (15, zm_call 18 167 2 false 99), (18, zm_aload 19 0), (19, zm_push 20 0), (20, zm_putZ 23 10 7), (23, zm_aload 24 0), (24, zm_push 25 0), (25, zm_putZ 28 10 8), (28, zm_push 29 0), (29, zm_istore 30 3), (30, zm_iload 31 3), (31, zm_push 32 3)]
theorem zmc_165_0 (l : Launch) : zAll l "ChessWire$Dispute" prog_5_method_2_code 4 false (some .boolean) zcl_165_0 :=
  zA_c (zOk_fl zn_aload (zs_aload_n (q := 1) rfl (by decide +kernel))) <|
  zA_c (zk_V zq_166 zw_1003 rfl (by decide +kernel)) <|
  zA_c (zOk_fl zn_push (zs_iconst (n := 3) (by decide +kernel) rfl)) <|
  zA_c (zOk_fl zn_icle (zs_icle (off := 5) (by decide +kernel) (by decide))) <|
  zA_c (zOk_fl zn_push (zs_iconst (n := 0) (by decide +kernel) rfl)) <|
  zA_c (zs_zret (by decide +kernel) rfl) <|
  zA_c (zOk_fl zn_aload (zs_aload_n (q := 0) rfl (by decide +kernel))) <|
  zA_c (zOk_fl zn_getR (zs_getR (k := 5) rfl (by decide) (by decide +kernel) rfl (by decide +kernel) zw_259)) <|
  zA_c (zOk_fl zn_pushl (zs_lconst (n := 0) (by decide +kernel) rfl)) <|
  zA_c (zk_S zq_167 zw_1007 (by decide +kernel)) <|
  zA_c (zOk_fl zn_aload (zs_aload_n (q := 0) rfl (by decide +kernel))) <|
  zA_c (zOk_fl zn_push (zs_iconst (n := 0) (by decide +kernel) rfl)) <|
  zA_c (zOk_sn zn_putZ (zs_putZ (k := 7) rfl (by decide) (by decide +kernel) rfl rfl (by decide +kernel) zw_261)) <|
  zA_c (zOk_fl zn_aload (zs_aload_n (q := 0) rfl (by decide +kernel))) <|
  zA_c (zOk_fl zn_push (zs_iconst (n := 0) (by decide +kernel) rfl)) <|
  zA_c (zOk_sn zn_putZ (zs_putZ (k := 8) rfl (by decide) (by decide +kernel) rfl rfl (by decide +kernel) zw_262)) <|
  zA_c (zOk_fl zn_push (zs_iconst (n := 0) (by decide +kernel) rfl)) <|
  zA_c (zOk_fl zn_istore (zs_istore_n (q := 3) rfl (by decide +kernel))) <|
  zA_c (zOk_fl zn_iload (zs_iload_n (q := 3) rfl (by decide +kernel))) <|
  zA_c (zOk_fl zn_push (zs_iconst (n := 3) (by decide +kernel) rfl)) <|
  zA_n
def zcl_165_1 : List (Nat × zmI) := [(32, zm_icge 35 62), (35, zm_aload 36 0), (36, zm_getR 39 10 2), (39, zm_iload 40 3), (40, zm_push 41 (-1)), (41, zm_iast 42), (42, zm_aload 43 0), (43, zm_getR 46 10 3), (46, zm_iload 47 3), (47, zm_push 48 (-1)), (48, zm_iast 49), (49, zm_aload 50 0), (50, zm_getR 53 10 4), (53, zm_iload 54 3), (54, zm_push 55 0), (55, zm_iast 56), (56, zm_iinc 59 3 1), (59, zm_goto 30), (62, zm_aload 63 0), (63, zm_getR 66 10 0)]
theorem zmc_165_1 (l : Launch) : zAll l "ChessWire$Dispute" prog_5_method_2_code 4 false (some .boolean) zcl_165_1 :=
  zA_c (zOk_fl zn_icge (zs_icge (off := 30) (by decide +kernel) (by decide))) <|
  zA_c (zOk_fl zn_aload (zs_aload_n (q := 0) rfl (by decide +kernel))) <|
  zA_c (zOk_fl zn_getR (zs_getR (k := 2) rfl (by decide) (by decide +kernel) rfl (by decide +kernel) zw_256)) <|
  zA_c (zOk_fl zn_iload (zs_iload_n (q := 3) rfl (by decide +kernel))) <|
  zA_c (zOk_fl zn_push (zs_iconst (n := (-1)) (by decide +kernel) rfl)) <|
  zA_c (zOk_sn zn_iast (zs_iast (by decide +kernel))) <|
  zA_c (zOk_fl zn_aload (zs_aload_n (q := 0) rfl (by decide +kernel))) <|
  zA_c (zOk_fl zn_getR (zs_getR (k := 3) rfl (by decide) (by decide +kernel) rfl (by decide +kernel) zw_257)) <|
  zA_c (zOk_fl zn_iload (zs_iload_n (q := 3) rfl (by decide +kernel))) <|
  zA_c (zOk_fl zn_push (zs_iconst (n := (-1)) (by decide +kernel) rfl)) <|
  zA_c (zOk_sn zn_iast (zs_iast (by decide +kernel))) <|
  zA_c (zOk_fl zn_aload (zs_aload_n (q := 0) rfl (by decide +kernel))) <|
  zA_c (zOk_fl zn_getR (zs_getR (k := 4) rfl (by decide) (by decide +kernel) rfl (by decide +kernel) zw_258)) <|
  zA_c (zOk_fl zn_iload (zs_iload_n (q := 3) rfl (by decide +kernel))) <|
  zA_c (zOk_fl zn_push (zs_iconst (n := 0) (by decide +kernel) rfl)) <|
  zA_c (zOk_sn zn_iast (zs_iast (by decide +kernel))) <|
  zA_c (zOk_fl zn_iinc (zs_iinc rfl (by decide +kernel))) <|
  zA_c (zOk_fl zn_goto (zs_goto (off := (-29)) (by decide +kernel) (by decide))) <|
  zA_c (zOk_fl zn_aload (zs_aload_n (q := 0) rfl (by decide +kernel))) <|
  zA_c (zOk_fl zn_getR (zs_getR (k := 0) rfl (by decide) (by decide +kernel) rfl (by decide +kernel) zw_254)) <|
  zA_n
def zcl_165_2 : List (Nat × zmI) := [(66, zm_push 67 0), (67, zm_aald 68 105), (68, zm_aload 69 2), (69, zm_call 72 136 2 false 2), (72, zm_aload 73 0), (73, zm_aload 74 0), (74, zm_aload 75 1), (75, zm_push 76 0), (76, zm_call 79 168 3 true 99), (79, zm_putI 82 10 6), (82, zm_aload 83 0), (83, zm_getI 86 10 8), (86, zm_ifne 89 93), (89, zm_push 90 1), (90, zm_goto 94), (93, zm_push 94 0), (94, zm_zret)]
theorem zmc_165_2 (l : Launch) : zAll l "ChessWire$Dispute" prog_5_method_2_code 4 false (some .boolean) zcl_165_2 :=
  zA_c (zOk_fl zn_push (zs_iconst (n := 0) (by decide +kernel) rfl)) <|
  zA_c (zOk_fl zn_aald (zs_aald (t := 5) (by decide) (by decide) rfl rfl (by decide +kernel))) <|
  zA_c (zOk_fl zn_aload (zs_aload_n (q := 2) rfl (by decide +kernel))) <|
  zA_c (zk_V zq_136 zw_1010 rfl (by decide +kernel)) <|
  zA_c (zOk_fl zn_aload (zs_aload_n (q := 0) rfl (by decide +kernel))) <|
  zA_c (zOk_fl zn_aload (zs_aload_n (q := 0) rfl (by decide +kernel))) <|
  zA_c (zOk_fl zn_aload (zs_aload_n (q := 1) rfl (by decide +kernel))) <|
  zA_c (zOk_fl zn_push (zs_iconst (n := 0) (by decide +kernel) rfl)) <|
  zA_c (zk_S zq_168 zw_1011 (by decide +kernel)) <|
  zA_c (zOk_sn zn_putI (zs_putI (k := 6) rfl (by decide) (by decide +kernel) rfl rfl (by decide +kernel) zw_260)) <|
  zA_c (zOk_fl zn_aload (zs_aload_n (q := 0) rfl (by decide +kernel))) <|
  zA_c (zOk_fl zn_getI (zs_getI (k := 8) rfl (by decide) (by decide +kernel) rfl (by decide +kernel) zw_262)) <|
  zA_c (zOk_fl zn_ifne (zs_ifne (off := 7) (by decide +kernel) (by decide))) <|
  zA_c (zOk_fl zn_push (zs_iconst (n := 1) (by decide +kernel) rfl)) <|
  zA_c (zOk_fl zn_goto (zs_goto (off := 4) (by decide +kernel) (by decide))) <|
  zA_c (zOk_fl zn_push (zs_iconst (n := 0) (by decide +kernel) rfl)) <|
  zA_c (zs_zret (by decide +kernel) rfl) <|
  zA_n
def zc_165 : Nat → zmI := zgetC [zcl_165_0, zcl_165_1, zcl_165_2]
theorem zmf_165 (l : Launch) : zMf l zc_165 165 := ⟨by decide +kernel, false, (fun h => by cases h), fun pc => zgetC_ok (zA2_c (zmc_165_0 l) (zA2_c (zmc_165_1 l) (zA2_c (zmc_165_2 l) (zA2_n)))) pc⟩
def zcl_166_0 : List (Nat × zmI) := [(0, zm_aload 1 0), (1, zm_getI 4 9 5), (4, zm_iret)]
theorem zmc_166_0 (l : Launch) : zAll l "ChessWire$Game" prog_7_method_4_code 1 false (some .int) zcl_166_0 :=
  zA_c (zOk_fl zn_aload (zs_aload_n (q := 0) rfl (by decide +kernel))) <|
  zA_c (zOk_fl zn_getI (zs_getI (k := 5) rfl (by decide) (by decide +kernel) rfl (by decide +kernel) zw_225)) <|
  zA_c (zs_iret (by decide +kernel) rfl) <|
  zA_n
def zc_166 : Nat → zmI := zgetC [zcl_166_0]
theorem zmf_166 (l : Launch) : zMf l zc_166 166 := ⟨by decide +kernel, false, (fun h => by cases h), fun pc => zgetC_ok (zA2_c (zmc_166_0 l) (zA2_n)) pc⟩
def zcl_167_0 : List (Nat × zmI) := [(0, zm_push 1 0), (1, zm_istore 2 3), (2, zm_aload 3 0), (3, zm_alen 4), (4, zm_istore 6 4), (6, zm_iload 7 3), (7, zm_iload 9 4), (9, zm_icge 12 22), (12, zm_aload 13 0), (13, zm_iload 14 3), (14, zm_lload 15 1), (15, zm_last 16), (16, zm_iinc 19 3 1), (19, zm_goto 6), (22, zm_vret)]
theorem zmc_167_0 (l : Launch) : zAll l "java/util/Arrays" prog_23_method_101_code 5 false (none) zcl_167_0 :=
  zA_c (zOk_fl zn_push (zs_iconst (n := 0) (by decide +kernel) rfl)) <|
  zA_c (zOk_fl zn_istore (zs_istore_n (q := 3) rfl (by decide +kernel))) <|
  zA_c (zOk_fl zn_aload (zs_aload_n (q := 0) rfl (by decide +kernel))) <|
  zA_c (zOk_fl zn_alen (zs_alen (by decide +kernel))) <|
  zA_c (zOk_fl zn_istore (zs_istore (by decide +kernel))) <|
  zA_c (zOk_fl zn_iload (zs_iload_n (q := 3) rfl (by decide +kernel))) <|
  zA_c (zOk_fl zn_iload (zs_iload (by decide +kernel))) <|
  zA_c (zOk_fl zn_icge (zs_icge (off := 13) (by decide +kernel) (by decide))) <|
  zA_c (zOk_fl zn_aload (zs_aload_n (q := 0) rfl (by decide +kernel))) <|
  zA_c (zOk_fl zn_iload (zs_iload_n (q := 3) rfl (by decide +kernel))) <|
  zA_c (zOk_fl zn_lload (zs_lload_n (q := 1) rfl (by decide +kernel))) <|
  zA_c (zOk_sn zn_last (zs_last (by decide +kernel))) <|
  zA_c (zOk_fl zn_iinc (zs_iinc rfl (by decide +kernel))) <|
  zA_c (zOk_fl zn_goto (zs_goto (off := (-13)) (by decide +kernel) (by decide))) <|
  zA_c (zs_vret (by decide +kernel) rfl) <|
  zA_n
def zc_167 : Nat → zmI := zgetC [zcl_167_0]
theorem zmf_167 (l : Launch) : zMf l zc_167 167 := ⟨by decide +kernel, false, (fun h => by cases h), fun pc => zgetC_ok (zA2_c (zmc_167_0 l) (zA2_n)) pc⟩
def zcl_168_0 : List (Nat × zmI) := [(0, zm_iload 1 2), (1, zm_aload 2 1), (2, zm_call 5 166 1 true 9), (5, zm_icge 8 13), (8, zm_iload 9 2), (9, zm_push 10 3), (10, zm_iclt 13 19), (13, zm_aload 14 0), (14, zm_call 17 169 1 false 10), (17, zm_push 18 1), (18, zm_iret), (19, zm_aload 20 0), (20, zm_getR 23 10 1), (23, zm_iload 24 2), (24, zm_aald 25 106), (25, zm_astore 26 3), (26, zm_aload 27 1), (27, zm_iload 28 2), (28, zm_aload 29 0), (29, zm_getR 32 10 0)]
theorem zmc_168_0 (l : Launch) : zAll l "ChessWire$Dispute" prog_5_method_3_code 7 false (some .int) zcl_168_0 :=
  zA_c (zOk_fl zn_iload (zs_iload_n (q := 2) rfl (by decide +kernel))) <|
  zA_c (zOk_fl zn_aload (zs_aload_n (q := 1) rfl (by decide +kernel))) <|
  zA_c (zk_V zq_166 zw_1003 rfl (by decide +kernel)) <|
  zA_c (zOk_fl zn_icge (zs_icge (off := 8) (by decide +kernel) (by decide))) <|
  zA_c (zOk_fl zn_iload (zs_iload_n (q := 2) rfl (by decide +kernel))) <|
  zA_c (zOk_fl zn_push (zs_iconst (n := 3) (by decide +kernel) rfl)) <|
  zA_c (zOk_fl zn_iclt (zs_iclt (off := 9) (by decide +kernel) (by decide))) <|
  zA_c (zOk_fl zn_aload (zs_aload_n (q := 0) rfl (by decide +kernel))) <|
  zA_c (zk_V zq_169 zw_1014 rfl (by decide +kernel)) <|
  zA_c (zOk_fl zn_push (zs_iconst (n := 1) (by decide +kernel) rfl)) <|
  zA_c (zs_iret (by decide +kernel) rfl) <|
  zA_c (zOk_fl zn_aload (zs_aload_n (q := 0) rfl (by decide +kernel))) <|
  zA_c (zOk_fl zn_getR (zs_getR (k := 1) rfl (by decide) (by decide +kernel) rfl (by decide +kernel) zw_255)) <|
  zA_c (zOk_fl zn_iload (zs_iload_n (q := 2) rfl (by decide +kernel))) <|
  zA_c (zOk_fl zn_aald (zs_aald (t := 6) (by decide) (by decide) rfl rfl (by decide +kernel))) <|
  zA_c (zOk_fl zn_astore (zs_astore_n (q := 3) rfl (by decide +kernel))) <|
  zA_c (zOk_fl zn_aload (zs_aload_n (q := 1) rfl (by decide +kernel))) <|
  zA_c (zOk_fl zn_iload (zs_iload_n (q := 2) rfl (by decide +kernel))) <|
  zA_c (zOk_fl zn_aload (zs_aload_n (q := 0) rfl (by decide +kernel))) <|
  zA_c (zOk_fl zn_getR (zs_getR (k := 0) rfl (by decide) (by decide +kernel) rfl (by decide +kernel) zw_254)) <|
  zA_n
def zcl_168_1 : List (Nat × zmI) := [(32, zm_iload 33 2), (33, zm_aald 34 105), (34, zm_aload 35 3), (35, zm_call 38 156 4 false 9), (38, zm_aload 39 3), (39, zm_call 42 90 1 true 5), (42, zm_push 44 40), (44, zm_icle 47 54), (47, zm_aload 48 0), (48, zm_push 49 1), (49, zm_putZ 52 10 8), (52, zm_push 53 0), (53, zm_iret), (54, zm_push 55 0), (55, zm_istore 57 4), (57, zm_push 58 0), (58, zm_istore 60 5), (60, zm_iload 62 5), (62, zm_aload 63 3), (63, zm_call 66 90 1 true 5)]
theorem zmc_168_1 (l : Launch) : zAll l "ChessWire$Dispute" prog_5_method_3_code 7 false (some .int) zcl_168_1 :=
  zA_c (zOk_fl zn_iload (zs_iload_n (q := 2) rfl (by decide +kernel))) <|
  zA_c (zOk_fl zn_aald (zs_aald (t := 5) (by decide) (by decide) rfl rfl (by decide +kernel))) <|
  zA_c (zOk_fl zn_aload (zs_aload_n (q := 3) rfl (by decide +kernel))) <|
  zA_c (zk_V zq_156 zw_1019 rfl (by decide +kernel)) <|
  zA_c (zOk_fl zn_aload (zs_aload_n (q := 3) rfl (by decide +kernel))) <|
  zA_c (zk_V zq_90 zw_1020 rfl (by decide +kernel)) <|
  zA_c (zOk_fl zn_push (zs_bipush (n := 40) (by decide +kernel) rfl)) <|
  zA_c (zOk_fl zn_icle (zs_icle (off := 10) (by decide +kernel) (by decide))) <|
  zA_c (zOk_fl zn_aload (zs_aload_n (q := 0) rfl (by decide +kernel))) <|
  zA_c (zOk_fl zn_push (zs_iconst (n := 1) (by decide +kernel) rfl)) <|
  zA_c (zOk_sn zn_putZ (zs_putZ (k := 8) rfl (by decide) (by decide +kernel) rfl rfl (by decide +kernel) zw_262)) <|
  zA_c (zOk_fl zn_push (zs_iconst (n := 0) (by decide +kernel) rfl)) <|
  zA_c (zs_iret (by decide +kernel) rfl) <|
  zA_c (zOk_fl zn_push (zs_iconst (n := 0) (by decide +kernel) rfl)) <|
  zA_c (zOk_fl zn_istore (zs_istore (by decide +kernel))) <|
  zA_c (zOk_fl zn_push (zs_iconst (n := 0) (by decide +kernel) rfl)) <|
  zA_c (zOk_fl zn_istore (zs_istore (by decide +kernel))) <|
  zA_c (zOk_fl zn_iload (zs_iload (by decide +kernel))) <|
  zA_c (zOk_fl zn_aload (zs_aload_n (q := 3) rfl (by decide +kernel))) <|
  zA_c (zk_V zq_90 zw_1020 rfl (by decide +kernel)) <|
  zA_n
def zcl_168_2 : List (Nat × zmI) := [(66, zm_icge 69 126), (69, zm_aload 70 0), (70, zm_getI 73 10 8), (73, zm_ifne 76 126), (76, zm_aload 77 0), (77, zm_iload 78 2), (78, zm_aload 79 3), (79, zm_iload 81 5), (81, zm_call 84 97 2 true 5), (84, zm_call 87 170 3 false 10), (87, zm_aload 88 0), (88, zm_aload 89 1), (89, zm_iload 90 2), (90, zm_push 91 1), (91, zm_bin 92 (fun x y => w32 (x + y))), (92, zm_call 95 168 3 true 99), (95, zm_istore 97 6)]
theorem zmc_168_2 (l : Launch) : zAll l "ChessWire$Dispute" prog_5_method_3_code 7 false (some .int) zcl_168_2 :=
  zA_c (zOk_fl zn_icge (zs_icge (off := 60) (by decide +kernel) (by decide))) <|
  zA_c (zOk_fl zn_aload (zs_aload_n (q := 0) rfl (by decide +kernel))) <|
  zA_c (zOk_fl zn_getI (zs_getI (k := 8) rfl (by decide) (by decide +kernel) rfl (by decide +kernel) zw_262)) <|
  zA_c (zOk_fl zn_ifne (zs_ifne (off := 53) (by decide +kernel) (by decide))) <|
  zA_c (zOk_fl zn_aload (zs_aload_n (q := 0) rfl (by decide +kernel))) <|
  zA_c (zOk_fl zn_iload (zs_iload_n (q := 2) rfl (by decide +kernel))) <|
  zA_c (zOk_fl zn_aload (zs_aload_n (q := 3) rfl (by decide +kernel))) <|
  zA_c (zOk_fl zn_iload (zs_iload (by decide +kernel))) <|
  zA_c (zk_V zq_97 zw_1021 rfl (by decide +kernel)) <|
  zA_c (zk_V zq_170 zw_1022 rfl (by decide +kernel)) <|
  zA_c (zOk_fl zn_aload (zs_aload_n (q := 0) rfl (by decide +kernel))) <|
  zA_c (zOk_fl zn_aload (zs_aload_n (q := 1) rfl (by decide +kernel))) <|
  zA_c (zOk_fl zn_iload (zs_iload_n (q := 2) rfl (by decide +kernel))) <|
  zA_c (zOk_fl zn_push (zs_iconst (n := 1) (by decide +kernel) rfl)) <|
  zA_c (zOk_fl zn_bin (zs_iadd (by decide +kernel))) <|
  zA_c (zk_S zq_168 zw_1011 (by decide +kernel)) <|
  zA_c (zOk_fl zn_istore (zs_istore (by decide +kernel))) <|
  zA_n
def zcl_168_3 : List (Nat × zmI) := [(97, zm_iload 99 6), (99, zm_ifle 102 113), (102, zm_aload 103 0), (103, zm_iload 104 2), (104, zm_aload 105 3), (105, zm_iload 107 5), (107, zm_call 110 97 2 true 5), (110, zm_call 113 171 3 false 10), (113, zm_iload 115 4), (115, zm_iload 117 6), (117, zm_bin 118 (fun x y => w32 (x + y))), (118, zm_istore 120 4), (120, zm_iinc 123 5 1), (123, zm_goto 60), (126, zm_iload 128 4)]
theorem zmc_168_3 (l : Launch) : zAll l "ChessWire$Dispute" prog_5_method_3_code 7 false (some .int) zcl_168_3 :=
  zA_c (zOk_fl zn_iload (zs_iload (by decide +kernel))) <|
  zA_c (zOk_fl zn_ifle (zs_ifle (off := 14) (by decide +kernel) (by decide))) <|
  zA_c (zOk_fl zn_aload (zs_aload_n (q := 0) rfl (by decide +kernel))) <|
  zA_c (zOk_fl zn_iload (zs_iload_n (q := 2) rfl (by decide +kernel))) <|
  zA_c (zOk_fl zn_aload (zs_aload_n (q := 3) rfl (by decide +kernel))) <|
  zA_c (zOk_fl zn_iload (zs_iload (by decide +kernel))) <|
  zA_c (zk_V zq_97 zw_1021 rfl (by decide +kernel)) <|
  zA_c (zk_V zq_171 zw_1027 rfl (by decide +kernel)) <|
  zA_c (zOk_fl zn_iload (zs_iload (by decide +kernel))) <|
  zA_c (zOk_fl zn_iload (zs_iload (by decide +kernel))) <|
  zA_c (zOk_fl zn_bin (zs_iadd (by decide +kernel))) <|
  zA_c (zOk_fl zn_istore (zs_istore (by decide +kernel))) <|
  zA_c (zOk_fl zn_iinc (zs_iinc rfl (by decide +kernel))) <|
  zA_c (zOk_fl zn_goto (zs_goto (off := (-63)) (by decide +kernel) (by decide))) <|
  zA_c (zOk_fl zn_iload (zs_iload (by decide +kernel))) <|
  zA_n
def zcl_168_4 : List (Nat × zmI) := [(128, zm_iret)]
theorem zmc_168_4 (l : Launch) : zAll l "ChessWire$Dispute" prog_5_method_3_code 7 false (some .int) zcl_168_4 :=
  zA_c (zs_iret (by decide +kernel) rfl) <|
  zA_n
def zc_168 : Nat → zmI := zgetC [zcl_168_0, zcl_168_1, zcl_168_2, zcl_168_3, zcl_168_4]
theorem zmf_168 (l : Launch) : zMf l zc_168 168 := ⟨by decide +kernel, false, (fun h => by cases h), fun pc => zgetC_ok (zA2_c (zmc_168_0 l) (zA2_c (zmc_168_1 l) (zA2_c (zmc_168_2 l) (zA2_c (zmc_168_3 l) (zA2_c (zmc_168_4 l) (zA2_n)))))) pc⟩
def zcl_169_0 : List (Nat × zmI) := [(0, zm_aload 1 0), (1, zm_getI 4 10 7), (4, zm_ifne 7 26), (7, zm_aload 8 0), (8, zm_getR 11 10 2), (11, zm_push 12 0), (12, zm_aload 13 0), (13, zm_getR 16 10 3), (16, zm_push 17 0), (17, zm_push 18 3), (18, zm_copy 21), (21, zm_aload 22 0), (22, zm_push 23 1), (23, zm_putZ 26 10 7), (26, zm_vret)]
theorem zmc_169_0 (l : Launch) : zAll l "ChessWire$Dispute" prog_5_method_5_code 1 false (none) zcl_169_0 :=
  zA_c (zOk_fl zn_aload (zs_aload_n (q := 0) rfl (by decide +kernel))) <|
  zA_c (zOk_fl zn_getI (zs_getI (k := 7) rfl (by decide) (by decide +kernel) rfl (by decide +kernel) zw_261)) <|
  zA_c (zOk_fl zn_ifne (zs_ifne (off := 22) (by decide +kernel) (by decide))) <|
  zA_c (zOk_fl zn_aload (zs_aload_n (q := 0) rfl (by decide +kernel))) <|
  zA_c (zOk_fl zn_getR (zs_getR (k := 2) rfl (by decide) (by decide +kernel) rfl (by decide +kernel) zw_256)) <|
  zA_c (zOk_fl zn_push (zs_iconst (n := 0) (by decide +kernel) rfl)) <|
  zA_c (zOk_fl zn_aload (zs_aload_n (q := 0) rfl (by decide +kernel))) <|
  zA_c (zOk_fl zn_getR (zs_getR (k := 3) rfl (by decide) (by decide +kernel) rfl (by decide +kernel) zw_257)) <|
  zA_c (zOk_fl zn_push (zs_iconst (n := 0) (by decide +kernel) rfl)) <|
  zA_c (zOk_fl zn_push (zs_iconst (n := 3) (by decide +kernel) rfl)) <|
  zA_c (zOk_sn zn_copy (zs_copy (by decide +kernel) zw_1018 zw_864 zw_863 zw_23)) <|
  zA_c (zOk_fl zn_aload (zs_aload_n (q := 0) rfl (by decide +kernel))) <|
  zA_c (zOk_fl zn_push (zs_iconst (n := 1) (by decide +kernel) rfl)) <|
  zA_c (zOk_sn zn_putZ (zs_putZ (k := 7) rfl (by decide) (by decide +kernel) rfl rfl (by decide +kernel) zw_261)) <|
  zA_c (zs_vret (by decide +kernel) rfl) <|
  zA_n
def zc_169 : Nat → zmI := zgetC [zcl_169_0]
theorem zmf_169 (l : Launch) : zMf l zc_169 169 := ⟨by decide +kernel, false, (fun h => by cases h), fun pc => zgetC_ok (zA2_c (zmc_169_0 l) (zA2_n)) pc⟩
def zcl_170_0 : List (Nat × zmI) := [(0, zm_aload 1 0), (1, zm_getR 4 10 2), (4, zm_iload 5 1), (5, zm_iload 6 2), (6, zm_iast 7), (7, zm_iload 8 1), (8, zm_push 9 1), (9, zm_bin 10 (fun x y => w32 (x + y))), (10, zm_push 11 3), (11, zm_icge 14 43), (14, zm_aload 15 0), (15, zm_getR 18 10 0), (18, zm_iload 19 1), (19, zm_push 20 1), (20, zm_bin 21 (fun x y => w32 (x + y))), (21, zm_aald 22 105), (22, zm_aload 23 0), (23, zm_getR 26 10 0), (26, zm_iload 27 1), (27, zm_aald 28 105), (28, zm_call 31 136 2 false 2), (31, zm_aload 32 0)]
theorem zmc_170_0 (l : Launch) : zAll l "ChessWire$Dispute" prog_5_method_4_code 3 false (none) zcl_170_0 :=
  zA_c (zOk_fl zn_aload (zs_aload_n (q := 0) rfl (by decide +kernel))) <|
  zA_c (zOk_fl zn_getR (zs_getR (k := 2) rfl (by decide) (by decide +kernel) rfl (by decide +kernel) zw_256)) <|
  zA_c (zOk_fl zn_iload (zs_iload_n (q := 1) rfl (by decide +kernel))) <|
  zA_c (zOk_fl zn_iload (zs_iload_n (q := 2) rfl (by decide +kernel))) <|
  zA_c (zOk_sn zn_iast (zs_iast (by decide +kernel))) <|
  zA_c (zOk_fl zn_iload (zs_iload_n (q := 1) rfl (by decide +kernel))) <|
  zA_c (zOk_fl zn_push (zs_iconst (n := 1) (by decide +kernel) rfl)) <|
  zA_c (zOk_fl zn_bin (zs_iadd (by decide +kernel))) <|
  zA_c (zOk_fl zn_push (zs_iconst (n := 3) (by decide +kernel) rfl)) <|
  zA_c (zOk_fl zn_icge (zs_icge (off := 32) (by decide +kernel) (by decide))) <|
  zA_c (zOk_fl zn_aload (zs_aload_n (q := 0) rfl (by decide +kernel))) <|
  zA_c (zOk_fl zn_getR (zs_getR (k := 0) rfl (by decide) (by decide +kernel) rfl (by decide +kernel) zw_254)) <|
  zA_c (zOk_fl zn_iload (zs_iload_n (q := 1) rfl (by decide +kernel))) <|
  zA_c (zOk_fl zn_push (zs_iconst (n := 1) (by decide +kernel) rfl)) <|
  zA_c (zOk_fl zn_bin (zs_iadd (by decide +kernel))) <|
  zA_c (zOk_fl zn_aald (zs_aald (t := 5) (by decide) (by decide) rfl rfl (by decide +kernel))) <|
  zA_c (zOk_fl zn_aload (zs_aload_n (q := 0) rfl (by decide +kernel))) <|
  zA_c (zOk_fl zn_getR (zs_getR (k := 0) rfl (by decide) (by decide +kernel) rfl (by decide +kernel) zw_254)) <|
  zA_c (zOk_fl zn_iload (zs_iload_n (q := 1) rfl (by decide +kernel))) <|
  zA_c (zOk_fl zn_aald (zs_aald (t := 5) (by decide) (by decide) rfl rfl (by decide +kernel))) <|
  zA_c (zk_V zq_136 zw_1010 rfl (by decide +kernel)) <|
  zA_c (zOk_fl zn_aload (zs_aload_n (q := 0) rfl (by decide +kernel))) <|
  zA_n
def zcl_170_1 : List (Nat × zmI) := [(32, zm_getR 35 10 0), (35, zm_iload 36 1), (36, zm_push 37 1), (37, zm_bin 38 (fun x y => w32 (x + y))), (38, zm_aald 39 105), (39, zm_iload 40 2), (40, zm_call 43 108 2 false 2), (43, zm_vret)]
theorem zmc_170_1 (l : Launch) : zAll l "ChessWire$Dispute" prog_5_method_4_code 3 false (none) zcl_170_1 :=
  zA_c (zOk_fl zn_getR (zs_getR (k := 0) rfl (by decide) (by decide +kernel) rfl (by decide +kernel) zw_254)) <|
  zA_c (zOk_fl zn_iload (zs_iload_n (q := 1) rfl (by decide +kernel))) <|
  zA_c (zOk_fl zn_push (zs_iconst (n := 1) (by decide +kernel) rfl)) <|
  zA_c (zOk_fl zn_bin (zs_iadd (by decide +kernel))) <|
  zA_c (zOk_fl zn_aald (zs_aald (t := 5) (by decide) (by decide) rfl rfl (by decide +kernel))) <|
  zA_c (zOk_fl zn_iload (zs_iload_n (q := 2) rfl (by decide +kernel))) <|
  zA_c (zk_V zq_108 zw_1026 rfl (by decide +kernel)) <|
  zA_c (zs_vret (by decide +kernel) rfl) <|
  zA_n
def zc_170 : Nat → zmI := zgetC [zcl_170_0, zcl_170_1]
theorem zmf_170 (l : Launch) : zMf l zc_170 170 := ⟨by decide +kernel, false, (fun h => by cases h), fun pc => zgetC_ok (zA2_c (zmc_170_0 l) (zA2_c (zmc_170_1 l) (zA2_n))) pc⟩
def zcl_171_0 : List (Nat × zmI) := [(0, zm_iload 1 1), (1, zm_push 3 64), (3, zm_bin 4 (fun x y => w32 (x * y))), (4, zm_iload 5 2), (5, zm_push 7 6), (7, zm_bin 8 z_shr), (8, zm_bin 9 (fun x y => w32 (x + y))), (9, zm_istore 10 3), (10, zm_pushl 11 1), (11, zm_iload 12 2), (12, zm_push 14 63), (14, zm_bin 15 z_and), (15, zm_shl 16 z_shll), (16, zm_lstore 18 4), (18, zm_iload 19 3), (19, zm_iflt 22 66), (22, zm_iload 23 3), (23, zm_aload 24 0), (24, zm_getR 27 10 5), (27, zm_alen 28), (28, zm_icge 31 66), (31, zm_aload 32 0)]
theorem zmc_171_0 (l : Launch) : zAll l "ChessWire$Dispute" prog_5_method_6_code 6 false (none) zcl_171_0 :=
  zA_c (zOk_fl zn_iload (zs_iload_n (q := 1) rfl (by decide +kernel))) <|
  zA_c (zOk_fl zn_push (zs_bipush (n := 64) (by decide +kernel) rfl)) <|
  zA_c (zOk_fl zn_bin (zs_imul (by decide +kernel))) <|
  zA_c (zOk_fl zn_iload (zs_iload_n (q := 2) rfl (by decide +kernel))) <|
  zA_c (zOk_fl zn_push (zs_bipush (n := 6) (by decide +kernel) rfl)) <|
  zA_c (zOk_fl zn_bin (zs_ishr (by decide +kernel))) <|
  zA_c (zOk_fl zn_bin (zs_iadd (by decide +kernel))) <|
  zA_c (zOk_fl zn_istore (zs_istore_n (q := 3) rfl (by decide +kernel))) <|
  zA_c (zOk_fl zn_pushl (zs_lconst (n := 1) (by decide +kernel) rfl)) <|
  zA_c (zOk_fl zn_iload (zs_iload_n (q := 2) rfl (by decide +kernel))) <|
  zA_c (zOk_fl zn_push (zs_bipush (n := 63) (by decide +kernel) rfl)) <|
  zA_c (zOk_fl zn_bin (zs_iand (by decide +kernel))) <|
  zA_c (zOk_fl zn_shl (zs_lshl (by decide +kernel))) <|
  zA_c (zOk_fl zn_lstore (zs_lstore (by decide +kernel))) <|
  zA_c (zOk_fl zn_iload (zs_iload_n (q := 3) rfl (by decide +kernel))) <|
  zA_c (zOk_fl zn_iflt (zs_iflt (off := 47) (by decide +kernel) (by decide))) <|
  zA_c (zOk_fl zn_iload (zs_iload_n (q := 3) rfl (by decide +kernel))) <|
  zA_c (zOk_fl zn_aload (zs_aload_n (q := 0) rfl (by decide +kernel))) <|
  zA_c (zOk_fl zn_getR (zs_getR (k := 5) rfl (by decide) (by decide +kernel) rfl (by decide +kernel) zw_259)) <|
  zA_c (zOk_fl zn_alen (zs_alen (by decide +kernel))) <|
  zA_c (zOk_fl zn_icge (zs_icge (off := 38) (by decide +kernel) (by decide))) <|
  zA_c (zOk_fl zn_aload (zs_aload_n (q := 0) rfl (by decide +kernel))) <|
  zA_n
def zcl_171_1 : List (Nat × zmI) := [(32, zm_getR 35 10 5), (35, zm_iload 36 3), (36, zm_lald 37), (37, zm_lload 39 4), (39, zm_binl 40 z_andl), (40, zm_pushl 41 0), (41, zm_lcmp 42), (42, zm_ifne 45 66), (45, zm_aload 46 0), (46, zm_getR 49 10 5), (49, zm_iload 50 3), (50, zm_dup2 51), (51, zm_lald 52), (52, zm_lload 54 4), (54, zm_binl 55 z_orl), (55, zm_last 56), (56, zm_aload 57 0), (57, zm_getR 60 10 4), (60, zm_iload 61 1), (61, zm_dup2 62), (62, zm_ald 63 100), (63, zm_push 64 1)]
theorem zmc_171_1 (l : Launch) : zAll l "ChessWire$Dispute" prog_5_method_6_code 6 false (none) zcl_171_1 :=
  zA_c (zOk_fl zn_getR (zs_getR (k := 5) rfl (by decide) (by decide +kernel) rfl (by decide +kernel) zw_259)) <|
  zA_c (zOk_fl zn_iload (zs_iload_n (q := 3) rfl (by decide +kernel))) <|
  zA_c (zOk_fl zn_lald (zs_lald (by decide +kernel))) <|
  zA_c (zOk_fl zn_lload (zs_lload (by decide +kernel))) <|
  zA_c (zOk_fl zn_binl (zs_land (by decide +kernel))) <|
  zA_c (zOk_fl zn_pushl (zs_lconst (n := 0) (by decide +kernel) rfl)) <|
  zA_c (zOk_fl zn_lcmp (zs_lcmp (by decide +kernel))) <|
  zA_c (zOk_fl zn_ifne (zs_ifne (off := 24) (by decide +kernel) (by decide))) <|
  zA_c (zOk_fl zn_aload (zs_aload_n (q := 0) rfl (by decide +kernel))) <|
  zA_c (zOk_fl zn_getR (zs_getR (k := 5) rfl (by decide) (by decide +kernel) rfl (by decide +kernel) zw_259)) <|
  zA_c (zOk_fl zn_iload (zs_iload_n (q := 3) rfl (by decide +kernel))) <|
  zA_c (zOk_fl zn_dup2 (zs_dup2 (by decide +kernel))) <|
  zA_c (zOk_fl zn_lald (zs_lald (by decide +kernel))) <|
  zA_c (zOk_fl zn_lload (zs_lload (by decide +kernel))) <|
  zA_c (zOk_fl zn_binl (zs_lor (by decide +kernel))) <|
  zA_c (zOk_sn zn_last (zs_last (by decide +kernel))) <|
  zA_c (zOk_fl zn_aload (zs_aload_n (q := 0) rfl (by decide +kernel))) <|
  zA_c (zOk_fl zn_getR (zs_getR (k := 4) rfl (by decide) (by decide +kernel) rfl (by decide +kernel) zw_258)) <|
  zA_c (zOk_fl zn_iload (zs_iload_n (q := 1) rfl (by decide +kernel))) <|
  zA_c (zOk_fl zn_dup2 (zs_dup2 (by decide +kernel))) <|
  zA_c (zOk_fl zn_ald (zs_iald (by decide +kernel))) <|
  zA_c (zOk_fl zn_push (zs_iconst (n := 1) (by decide +kernel) rfl)) <|
  zA_n
def zcl_171_2 : List (Nat × zmI) := [(64, zm_bin 65 (fun x y => w32 (x + y))), (65, zm_iast 66), (66, zm_vret)]
theorem zmc_171_2 (l : Launch) : zAll l "ChessWire$Dispute" prog_5_method_6_code 6 false (none) zcl_171_2 :=
  zA_c (zOk_fl zn_bin (zs_iadd (by decide +kernel))) <|
  zA_c (zOk_sn zn_iast (zs_iast (by decide +kernel))) <|
  zA_c (zs_vret (by decide +kernel) rfl) <|
  zA_n
def zc_171 : Nat → zmI := zgetC [zcl_171_0, zcl_171_1, zcl_171_2]
theorem zmf_171 (l : Launch) : zMf l zc_171 171 := ⟨by decide +kernel, false, (fun h => by cases h), fun pc => zgetC_ok (zA2_c (zmc_171_0 l) (zA2_c (zmc_171_1 l) (zA2_c (zmc_171_2 l) (zA2_n)))) pc⟩
def zcl_172_0 : List (Nat × zmI) := [(0, zm_aload 1 0), (1, zm_getI 4 10 6), (4, zm_iret)]
theorem zmc_172_0 (l : Launch) : zAll l "ChessWire$Dispute" prog_5_method_7_code 1 false (some .int) zcl_172_0 :=
  zA_c (zOk_fl zn_aload (zs_aload_n (q := 0) rfl (by decide +kernel))) <|
  zA_c (zOk_fl zn_getI (zs_getI (k := 6) rfl (by decide) (by decide +kernel) rfl (by decide +kernel) zw_260)) <|
  zA_c (zs_iret (by decide +kernel) rfl) <|
  zA_n
def zc_172 : Nat → zmI := zgetC [zcl_172_0]
theorem zmf_172 (l : Launch) : zMf l zc_172 172 := ⟨by decide +kernel, false, (fun h => by cases h), fun pc => zgetC_ok (zA2_c (zmc_172_0 l) (zA2_n)) pc⟩
def zcl_173_0 : List (Nat × zmI) := [(0, zm_iload 1 1), (1, zm_iflt 4 18), (4, zm_iload 5 1), (5, zm_push 6 3), (6, zm_icge 9 18), (9, zm_iload 10 2), (10, zm_iflt 13 18), (13, zm_iload 14 2), (14, zm_push 15 1), (15, zm_icle 18 21), (18, zm_push 20 (-2)), (20, zm_iret), (21, zm_aload 22 0), (22, zm_getR 25 0 10), (25, zm_aload 26 0), (26, zm_getR 29 0 0), (29, zm_push 30 2), (30, zm_aald 31 103), (31, zm_call 34 155 2 false 9)]
theorem zmc_173_0 (l : Launch) : zAll l "ChessWire" prog_1_method_26_code 3 false (some .int) zcl_173_0 :=
  zA_c (zOk_fl zn_iload (zs_iload_n (q := 1) rfl (by decide +kernel))) <|
  zA_c (zOk_fl zn_iflt (zs_iflt (off := 17) (by decide +kernel) (by decide))) <|
  zA_c (zOk_fl zn_iload (zs_iload_n (q := 1) rfl (by decide +kernel))) <|
  zA_c (zOk_fl zn_push (zs_iconst (n := 3) (by decide +kernel) rfl)) <|
  zA_c (zOk_fl zn_icge (zs_icge (off := 12) (by decide +kernel) (by decide))) <|
  zA_c (zOk_fl zn_iload (zs_iload_n (q := 2) rfl (by decide +kernel))) <|
  zA_c (zOk_fl zn_iflt (zs_iflt (off := 8) (by decide +kernel) (by decide))) <|
  zA_c (zOk_fl zn_iload (zs_iload_n (q := 2) rfl (by decide +kernel))) <|
  zA_c (zOk_fl zn_push (zs_iconst (n := 1) (by decide +kernel) rfl)) <|
  zA_c (zOk_fl zn_icle (zs_icle (off := 6) (by decide +kernel) (by decide))) <|
  zA_c (zOk_fl zn_push (zs_bipush (n := (-2)) (by decide +kernel) rfl)) <|
  zA_c (zs_iret (by decide +kernel) rfl) <|
  zA_c (zOk_fl zn_aload (zs_aload_n (q := 0) rfl (by decide +kernel))) <|
  zA_c (zOk_fl zn_getR (zs_getR (k := 10) rfl (by decide) (by decide +kernel) rfl (by decide +kernel) zw_313)) <|
  zA_c (zOk_fl zn_aload (zs_aload_n (q := 0) rfl (by decide +kernel))) <|
  zA_c (zOk_fl zn_getR (zs_getR (k := 0) rfl (by decide) (by decide +kernel) rfl (by decide +kernel) zw_303)) <|
  zA_c (zOk_fl zn_push (zs_iconst (n := 2) (by decide +kernel) rfl)) <|
  zA_c (zOk_fl zn_aald (zs_aald (t := 3) (by decide) (by decide) rfl rfl (by decide +kernel))) <|
  zA_c (zk_V zq_155 zw_998 rfl (by decide +kernel)) <|
  zA_n
def zcl_173_1 : List (Nat × zmI) := [(34, zm_aload 35 0), (35, zm_getR 38 0 11), (38, zm_aload 39 0), (39, zm_getR 42 0 10), (42, zm_aload 43 0), (43, zm_getR 46 0 1), (46, zm_call 49 165 3 true 10), (49, zm_ifne 52 55), (52, zm_push 54 (-4)), (54, zm_iret), (55, zm_iload 56 2), (56, zm_ifne 59 70), (59, zm_aload 60 0), (60, zm_getR 63 0 11), (63, zm_iload 64 1)]
theorem zmc_173_1 (l : Launch) : zAll l "ChessWire" prog_1_method_26_code 3 false (some .int) zcl_173_1 :=
  zA_c (zOk_fl zn_aload (zs_aload_n (q := 0) rfl (by decide +kernel))) <|
  zA_c (zOk_fl zn_getR (zs_getR (k := 11) rfl (by decide) (by decide +kernel) rfl (by decide +kernel) zw_314)) <|
  zA_c (zOk_fl zn_aload (zs_aload_n (q := 0) rfl (by decide +kernel))) <|
  zA_c (zOk_fl zn_getR (zs_getR (k := 10) rfl (by decide) (by decide +kernel) rfl (by decide +kernel) zw_313)) <|
  zA_c (zOk_fl zn_aload (zs_aload_n (q := 0) rfl (by decide +kernel))) <|
  zA_c (zOk_fl zn_getR (zs_getR (k := 1) rfl (by decide) (by decide +kernel) rfl (by decide +kernel) zw_304)) <|
  zA_c (zk_V zq_165 zw_999 rfl (by decide +kernel)) <|
  zA_c (zOk_fl zn_ifne (zs_ifne (off := 6) (by decide +kernel) (by decide))) <|
  zA_c (zOk_fl zn_push (zs_bipush (n := (-4)) (by decide +kernel) rfl)) <|
  zA_c (zs_iret (by decide +kernel) rfl) <|
  zA_c (zOk_fl zn_iload (zs_iload_n (q := 2) rfl (by decide +kernel))) <|
  zA_c (zOk_fl zn_ifne (zs_ifne (off := 14) (by decide +kernel) (by decide))) <|
  zA_c (zOk_fl zn_aload (zs_aload_n (q := 0) rfl (by decide +kernel))) <|
  zA_c (zOk_fl zn_getR (zs_getR (k := 11) rfl (by decide) (by decide +kernel) rfl (by decide +kernel) zw_314)) <|
  zA_c (zOk_fl zn_iload (zs_iload_n (q := 1) rfl (by decide +kernel))) <|
  zA_n
def zcl_173_2 : List (Nat × zmI) := [(64, zm_call 67 174 2 true 10), (67, zm_goto 78), (70, zm_aload 71 0), (71, zm_getR 74 0 11), (74, zm_iload 75 1), (75, zm_call 78 175 2 true 10), (78, zm_iret)]
theorem zmc_173_2 (l : Launch) : zAll l "ChessWire" prog_1_method_26_code 3 false (some .int) zcl_173_2 :=
  zA_c (zk_V zq_174 zw_1039 rfl (by decide +kernel)) <|
  zA_c (zOk_fl zn_goto (zs_goto (off := 11) (by decide +kernel) (by decide))) <|
  zA_c (zOk_fl zn_aload (zs_aload_n (q := 0) rfl (by decide +kernel))) <|
  zA_c (zOk_fl zn_getR (zs_getR (k := 11) rfl (by decide) (by decide +kernel) rfl (by decide +kernel) zw_314)) <|
  zA_c (zOk_fl zn_iload (zs_iload_n (q := 1) rfl (by decide +kernel))) <|
  zA_c (zk_V zq_175 zw_1043 rfl (by decide +kernel)) <|
  zA_c (zs_iret (by decide +kernel) rfl) <|
  zA_n
def zc_173 : Nat → zmI := zgetC [zcl_173_0, zcl_173_1, zcl_173_2]
theorem zmf_173 (l : Launch) : zMf l zc_173 173 := ⟨by decide +kernel, false, (fun h => by cases h), fun pc => zgetC_ok (zA2_c (zmc_173_0 l) (zA2_c (zmc_173_1 l) (zA2_c (zmc_173_2 l) (zA2_n)))) pc⟩
def zcl_174_0 : List (Nat × zmI) := [(0, zm_iload 1 1), (1, zm_iflt 4 18), (4, zm_iload 5 1), (5, zm_push 6 3), (6, zm_icge 9 18), (9, zm_aload 10 0), (10, zm_getR 13 10 3), (13, zm_iload 14 1), (14, zm_ald 15 100), (15, zm_goto 19), (18, zm_push 19 (-1)), (19, zm_iret)]
theorem zmc_174_0 (l : Launch) : zAll l "ChessWire$Dispute" prog_5_method_8_code 2 false (some .int) zcl_174_0 :=
  zA_c (zOk_fl zn_iload (zs_iload_n (q := 1) rfl (by decide +kernel))) <|
  zA_c (zOk_fl zn_iflt (zs_iflt (off := 17) (by decide +kernel) (by decide))) <|
  zA_c (zOk_fl zn_iload (zs_iload_n (q := 1) rfl (by decide +kernel))) <|
  zA_c (zOk_fl zn_push (zs_iconst (n := 3) (by decide +kernel) rfl)) <|
  zA_c (zOk_fl zn_icge (zs_icge (off := 12) (by decide +kernel) (by decide))) <|
  zA_c (zOk_fl zn_aload (zs_aload_n (q := 0) rfl (by decide +kernel))) <|
  zA_c (zOk_fl zn_getR (zs_getR (k := 3) rfl (by decide) (by decide +kernel) rfl (by decide +kernel) zw_257)) <|
  zA_c (zOk_fl zn_iload (zs_iload_n (q := 1) rfl (by decide +kernel))) <|
  zA_c (zOk_fl zn_ald (zs_iald (by decide +kernel))) <|
  zA_c (zOk_fl zn_goto (zs_goto (off := 4) (by decide +kernel) (by decide))) <|
  zA_c (zOk_fl zn_push (zs_iconst (n := (-1)) (by decide +kernel) rfl)) <|
  zA_c (zs_iret (by decide +kernel) rfl) <|
  zA_n
def zc_174 : Nat → zmI := zgetC [zcl_174_0]
theorem zmf_174 (l : Launch) : zMf l zc_174 174 := ⟨by decide +kernel, false, (fun h => by cases h), fun pc => zgetC_ok (zA2_c (zmc_174_0 l) (zA2_n)) pc⟩
def zcl_175_0 : List (Nat × zmI) := [(0, zm_iload 1 1), (1, zm_iflt 4 18), (4, zm_iload 5 1), (5, zm_push 6 3), (6, zm_icge 9 18), (9, zm_aload 10 0), (10, zm_getR 13 10 4), (13, zm_iload 14 1), (14, zm_ald 15 100), (15, zm_goto 19), (18, zm_push 19 0), (19, zm_iret)]
theorem zmc_175_0 (l : Launch) : zAll l "ChessWire$Dispute" prog_5_method_9_code 2 false (some .int) zcl_175_0 :=
  zA_c (zOk_fl zn_iload (zs_iload_n (q := 1) rfl (by decide +kernel))) <|
  zA_c (zOk_fl zn_iflt (zs_iflt (off := 17) (by decide +kernel) (by decide))) <|
  zA_c (zOk_fl zn_iload (zs_iload_n (q := 1) rfl (by decide +kernel))) <|
  zA_c (zOk_fl zn_push (zs_iconst (n := 3) (by decide +kernel) rfl)) <|
  zA_c (zOk_fl zn_icge (zs_icge (off := 12) (by decide +kernel) (by decide))) <|
  zA_c (zOk_fl zn_aload (zs_aload_n (q := 0) rfl (by decide +kernel))) <|
  zA_c (zOk_fl zn_getR (zs_getR (k := 4) rfl (by decide) (by decide +kernel) rfl (by decide +kernel) zw_258)) <|
  zA_c (zOk_fl zn_iload (zs_iload_n (q := 1) rfl (by decide +kernel))) <|
  zA_c (zOk_fl zn_ald (zs_iald (by decide +kernel))) <|
  zA_c (zOk_fl zn_goto (zs_goto (off := 4) (by decide +kernel) (by decide))) <|
  zA_c (zOk_fl zn_push (zs_iconst (n := 0) (by decide +kernel) rfl)) <|
  zA_c (zs_iret (by decide +kernel) rfl) <|
  zA_n
def zc_175 : Nat → zmI := zgetC [zcl_175_0]
theorem zmf_175 (l : Launch) : zMf l zc_175 175 := ⟨by decide +kernel, false, (fun h => by cases h), fun pc => zgetC_ok (zA2_c (zmc_175_0 l) (zA2_n)) pc⟩
def zcl_176_0 : List (Nat × zmI) := [(0, zm_aload 1 0), (1, zm_iload 2 1), (2, zm_call 5 110 2 true 0), (5, zm_ifne 8 21), (8, zm_iload 9 2), (9, zm_call 12 177 1 true 99), (12, zm_ifne 15 21), (15, zm_iload 16 3), (16, zm_push 18 60), (18, zm_icle 21 24), (21, zm_push 23 (-2)), (23, zm_iret), (24, zm_iload 25 3), (25, zm_ifge 28 34), (28, zm_aload 29 0), (29, zm_push 30 5), (30, zm_call 33 112 2 true 0)]
theorem zmc_176_0 (l : Launch) : zAll l "ChessWire" prog_1_method_27_code 4 false (some .int) zcl_176_0 :=
  zA_c (zOk_fl zn_aload (zs_aload_n (q := 0) rfl (by decide +kernel))) <|
  zA_c (zOk_fl zn_iload (zs_iload_n (q := 1) rfl (by decide +kernel))) <|
  zA_c (zk_V zq_110 zw_750 rfl (by decide +kernel)) <|
  zA_c (zOk_fl zn_ifne (zs_ifne (off := 16) (by decide +kernel) (by decide))) <|
  zA_c (zOk_fl zn_iload (zs_iload_n (q := 2) rfl (by decide +kernel))) <|
  zA_c (zk_S zq_177 zw_1051 (by decide +kernel)) <|
  zA_c (zOk_fl zn_ifne (zs_ifne (off := 9) (by decide +kernel) (by decide))) <|
  zA_c (zOk_fl zn_iload (zs_iload_n (q := 3) rfl (by decide +kernel))) <|
  zA_c (zOk_fl zn_push (zs_bipush (n := 60) (by decide +kernel) rfl)) <|
  zA_c (zOk_fl zn_icle (zs_icle (off := 6) (by decide +kernel) (by decide))) <|
  zA_c (zOk_fl zn_push (zs_bipush (n := (-2)) (by decide +kernel) rfl)) <|
  zA_c (zs_iret (by decide +kernel) rfl) <|
  zA_c (zOk_fl zn_iload (zs_iload_n (q := 3) rfl (by decide +kernel))) <|
  zA_c (zOk_fl zn_ifge (zs_ifge (off := 9) (by decide +kernel) (by decide))) <|
  zA_c (zOk_fl zn_aload (zs_aload_n (q := 0) rfl (by decide +kernel))) <|
  zA_c (zOk_fl zn_push (zs_iconst (n := 5) (by decide +kernel) rfl)) <|
  zA_c (zk_V zq_112 zw_758 rfl (by decide +kernel)) <|
  zA_n
def zcl_176_1 : List (Nat × zmI) := [(33, zm_iret), (34, zm_aload 35 0), (35, zm_getR 38 0 12), (38, zm_iload 39 1), (39, zm_aald 40 107), (40, zm_iload 41 2), (41, zm_iload 42 3), (42, zm_call 45 178 3 false 11), (45, zm_iload 46 3), (46, zm_iret)]
theorem zmc_176_1 (l : Launch) : zAll l "ChessWire" prog_1_method_27_code 4 false (some .int) zcl_176_1 :=
  zA_c (zs_iret (by decide +kernel) rfl) <|
  zA_c (zOk_fl zn_aload (zs_aload_n (q := 0) rfl (by decide +kernel))) <|
  zA_c (zOk_fl zn_getR (zs_getR (k := 12) rfl (by decide) (by decide +kernel) rfl (by decide +kernel) zw_315)) <|
  zA_c (zOk_fl zn_iload (zs_iload_n (q := 1) rfl (by decide +kernel))) <|
  zA_c (zOk_fl zn_aald (zs_aald (t := 7) (by decide) (by decide) rfl rfl (by decide +kernel))) <|
  zA_c (zOk_fl zn_iload (zs_iload_n (q := 2) rfl (by decide +kernel))) <|
  zA_c (zOk_fl zn_iload (zs_iload_n (q := 3) rfl (by decide +kernel))) <|
  zA_c (zk_V zq_178 zw_1054 rfl (by decide +kernel)) <|
  zA_c (zOk_fl zn_iload (zs_iload_n (q := 3) rfl (by decide +kernel))) <|
  zA_c (zs_iret (by decide +kernel) rfl) <|
  zA_n
def zc_176 : Nat → zmI := zgetC [zcl_176_0, zcl_176_1]
theorem zmf_176 (l : Launch) : zMf l zc_176 176 := ⟨by decide +kernel, false, (fun h => by cases h), fun pc => zgetC_ok (zA2_c (zmc_176_0 l) (zA2_c (zmc_176_1 l) (zA2_n))) pc⟩
def zcl_177_0 : List (Nat × zmI) := [(0, zm_iload 1 0), (1, zm_iflt 4 9), (4, zm_iload 5 0), (5, zm_push 6 3), (6, zm_iclt 9 13), (9, zm_push 10 1), (10, zm_goto 14), (13, zm_push 14 0), (14, zm_zret)]
theorem zmc_177_0 (l : Launch) : zAll l "ChessWire$Sheet" prog_11_method_2_code 1 false (some .boolean) zcl_177_0 :=
  zA_c (zOk_fl zn_iload (zs_iload_n (q := 0) rfl (by decide +kernel))) <|
  zA_c (zOk_fl zn_iflt (zs_iflt (off := 8) (by decide +kernel) (by decide))) <|
  zA_c (zOk_fl zn_iload (zs_iload_n (q := 0) rfl (by decide +kernel))) <|
  zA_c (zOk_fl zn_push (zs_iconst (n := 3) (by decide +kernel) rfl)) <|
  zA_c (zOk_fl zn_iclt (zs_iclt (off := 7) (by decide +kernel) (by decide))) <|
  zA_c (zOk_fl zn_push (zs_iconst (n := 1) (by decide +kernel) rfl)) <|
  zA_c (zOk_fl zn_goto (zs_goto (off := 4) (by decide +kernel) (by decide))) <|
  zA_c (zOk_fl zn_push (zs_iconst (n := 0) (by decide +kernel) rfl)) <|
  zA_c (zs_zret (by decide +kernel) rfl) <|
  zA_n
def zc_177 : Nat → zmI := zgetC [zcl_177_0]
theorem zmf_177 (l : Launch) : zMf l zc_177 177 := ⟨by decide +kernel, false, (fun h => by cases h), fun pc => zgetC_ok (zA2_c (zmc_177_0 l) (zA2_n)) pc⟩
def zcl_178_0 : List (Nat × zmI) := [(0, zm_aload 1 0), (1, zm_push 2 1), (2, zm_putZ 5 11 1), (5, zm_aload 6 0), (6, zm_iload 7 1), (7, zm_putI 10 11 2), (10, zm_aload 11 0), (11, zm_push 12 0), (12, zm_iload 13 2), (13, zm_push 15 60), (15, zm_call 18 35 2 true 99), (18, zm_call 21 3 2 true 99), (21, zm_putI 24 11 3), (24, zm_aload 25 0), (25, zm_getR 28 11 0), (28, zm_push 29 0), (29, zm_call 32 21 2 false 99)]
theorem zmc_178_0 (l : Launch) : zAll l "ChessWire$Sheet" prog_11_method_3_code 3 false (none) zcl_178_0 :=
  zA_c (zOk_fl zn_aload (zs_aload_n (q := 0) rfl (by decide +kernel))) <|
  zA_c (zOk_fl zn_push (zs_iconst (n := 1) (by decide +kernel) rfl)) <|
  zA_c (zOk_sn zn_putZ (zs_putZ (k := 1) rfl (by decide) (by decide +kernel) rfl rfl (by decide +kernel) zw_291)) <|
  zA_c (zOk_fl zn_aload (zs_aload_n (q := 0) rfl (by decide +kernel))) <|
  zA_c (zOk_fl zn_iload (zs_iload_n (q := 1) rfl (by decide +kernel))) <|
  zA_c (zOk_sn zn_putI (zs_putI (k := 2) rfl (by decide) (by decide +kernel) rfl rfl (by decide +kernel) zw_292)) <|
  zA_c (zOk_fl zn_aload (zs_aload_n (q := 0) rfl (by decide +kernel))) <|
  zA_c (zOk_fl zn_push (zs_iconst (n := 0) (by decide +kernel) rfl)) <|
  zA_c (zOk_fl zn_iload (zs_iload_n (q := 2) rfl (by decide +kernel))) <|
  zA_c (zOk_fl zn_push (zs_bipush (n := 60) (by decide +kernel) rfl)) <|
  zA_c (zk_S zq_35 zw_1058 (by decide +kernel)) <|
  zA_c (zk_S zq_3 zw_1059 (by decide +kernel)) <|
  zA_c (zOk_sn zn_putI (zs_putI (k := 3) rfl (by decide) (by decide +kernel) rfl rfl (by decide +kernel) zw_293)) <|
  zA_c (zOk_fl zn_aload (zs_aload_n (q := 0) rfl (by decide +kernel))) <|
  zA_c (zOk_fl zn_getR (zs_getR (k := 0) rfl (by decide) (by decide +kernel) rfl (by decide +kernel) zw_290)) <|
  zA_c (zOk_fl zn_push (zs_iconst (n := 0) (by decide +kernel) rfl)) <|
  zA_c (zk_S zq_21 zw_1060 (by decide +kernel)) <|
  zA_n
def zcl_178_1 : List (Nat × zmI) := [(32, zm_vret)]
theorem zmc_178_1 (l : Launch) : zAll l "ChessWire$Sheet" prog_11_method_3_code 3 false (none) zcl_178_1 :=
  zA_c (zs_vret (by decide +kernel) rfl) <|
  zA_n
def zc_178 : Nat → zmI := zgetC [zcl_178_0, zcl_178_1]
theorem zmf_178 (l : Launch) : zMf l zc_178 178 := ⟨by decide +kernel, false, (fun h => by cases h), fun pc => zgetC_ok (zA2_c (zmc_178_0 l) (zA2_c (zmc_178_1 l) (zA2_n))) pc⟩
def zcl_179_0 : List (Nat × zmI) := [(0, zm_aload 1 0), (1, zm_iload 2 1), (2, zm_call 5 110 2 true 0), (5, zm_ifeq 8 11), (8, zm_push 10 (-2)), (10, zm_iret), (11, zm_aload 12 0), (12, zm_getR 15 0 12), (15, zm_iload 16 1), (16, zm_aald 17 107), (17, zm_call 20 111 1 true 11), (20, zm_ifeq 23 29), (23, zm_aload 24 0), (24, zm_push 25 1), (25, zm_call 28 112 2 true 0), (28, zm_iret), (29, zm_aload 30 0), (30, zm_getR 33 0 12)]
theorem zmc_179_0 (l : Launch) : zAll l "ChessWire" prog_1_method_28_code 3 false (some .int) zcl_179_0 :=
  zA_c (zOk_fl zn_aload (zs_aload_n (q := 0) rfl (by decide +kernel))) <|
  zA_c (zOk_fl zn_iload (zs_iload_n (q := 1) rfl (by decide +kernel))) <|
  zA_c (zk_V zq_110 zw_750 rfl (by decide +kernel)) <|
  zA_c (zOk_fl zn_ifeq (zs_ifeq (off := 6) (by decide +kernel) (by decide))) <|
  zA_c (zOk_fl zn_push (zs_bipush (n := (-2)) (by decide +kernel) rfl)) <|
  zA_c (zs_iret (by decide +kernel) rfl) <|
  zA_c (zOk_fl zn_aload (zs_aload_n (q := 0) rfl (by decide +kernel))) <|
  zA_c (zOk_fl zn_getR (zs_getR (k := 12) rfl (by decide) (by decide +kernel) rfl (by decide +kernel) zw_315)) <|
  zA_c (zOk_fl zn_iload (zs_iload_n (q := 1) rfl (by decide +kernel))) <|
  zA_c (zOk_fl zn_aald (zs_aald (t := 7) (by decide) (by decide) rfl rfl (by decide +kernel))) <|
  zA_c (zk_V zq_111 zw_754 rfl (by decide +kernel)) <|
  zA_c (zOk_fl zn_ifeq (zs_ifeq (off := 9) (by decide +kernel) (by decide))) <|
  zA_c (zOk_fl zn_aload (zs_aload_n (q := 0) rfl (by decide +kernel))) <|
  zA_c (zOk_fl zn_push (zs_iconst (n := 1) (by decide +kernel) rfl)) <|
  zA_c (zk_V zq_112 zw_758 rfl (by decide +kernel)) <|
  zA_c (zs_iret (by decide +kernel) rfl) <|
  zA_c (zOk_fl zn_aload (zs_aload_n (q := 0) rfl (by decide +kernel))) <|
  zA_c (zOk_fl zn_getR (zs_getR (k := 12) rfl (by decide) (by decide +kernel) rfl (by decide +kernel) zw_315)) <|
  zA_n
def zcl_179_1 : List (Nat × zmI) := [(33, zm_iload 34 1), (34, zm_aald 35 107), (35, zm_call 38 113 1 true 11), (38, zm_istore 39 2), (39, zm_aload 40 0), (40, zm_getR 43 0 12), (43, zm_iload 44 1), (44, zm_aald 45 107), (45, zm_call 48 180 1 false 11), (48, zm_iload 49 2), (49, zm_iret)]
theorem zmc_179_1 (l : Launch) : zAll l "ChessWire" prog_1_method_28_code 3 false (some .int) zcl_179_1 :=
  zA_c (zOk_fl zn_iload (zs_iload_n (q := 1) rfl (by decide +kernel))) <|
  zA_c (zOk_fl zn_aald (zs_aald (t := 7) (by decide) (by decide) rfl rfl (by decide +kernel))) <|
  zA_c (zk_V zq_113 zw_762 rfl (by decide +kernel)) <|
  zA_c (zOk_fl zn_istore (zs_istore_n (q := 2) rfl (by decide +kernel))) <|
  zA_c (zOk_fl zn_aload (zs_aload_n (q := 0) rfl (by decide +kernel))) <|
  zA_c (zOk_fl zn_getR (zs_getR (k := 12) rfl (by decide) (by decide +kernel) rfl (by decide +kernel) zw_315)) <|
  zA_c (zOk_fl zn_iload (zs_iload_n (q := 1) rfl (by decide +kernel))) <|
  zA_c (zOk_fl zn_aald (zs_aald (t := 7) (by decide) (by decide) rfl rfl (by decide +kernel))) <|
  zA_c (zk_V zq_180 zw_1065 rfl (by decide +kernel)) <|
  zA_c (zOk_fl zn_iload (zs_iload_n (q := 2) rfl (by decide +kernel))) <|
  zA_c (zs_iret (by decide +kernel) rfl) <|
  zA_n
def zc_179 : Nat → zmI := zgetC [zcl_179_0, zcl_179_1]
theorem zmf_179 (l : Launch) : zMf l zc_179 179 := ⟨by decide +kernel, false, (fun h => by cases h), fun pc => zgetC_ok (zA2_c (zmc_179_0 l) (zA2_c (zmc_179_1 l) (zA2_n))) pc⟩
def zcl_180_0 : List (Nat × zmI) := [(0, zm_aload 1 0), (1, zm_push 2 0), (2, zm_putZ 5 11 1), (5, zm_aload 6 0), (6, zm_push 7 0), (7, zm_putI 10 11 3), (10, zm_vret)]
theorem zmc_180_0 (l : Launch) : zAll l "ChessWire$Sheet" prog_11_method_4_code 1 false (none) zcl_180_0 :=
  zA_c (zOk_fl zn_aload (zs_aload_n (q := 0) rfl (by decide +kernel))) <|
  zA_c (zOk_fl zn_push (zs_iconst (n := 0) (by decide +kernel) rfl)) <|
  zA_c (zOk_sn zn_putZ (zs_putZ (k := 1) rfl (by decide) (by decide +kernel) rfl rfl (by decide +kernel) zw_291)) <|
  zA_c (zOk_fl zn_aload (zs_aload_n (q := 0) rfl (by decide +kernel))) <|
  zA_c (zOk_fl zn_push (zs_iconst (n := 0) (by decide +kernel) rfl)) <|
  zA_c (zOk_sn zn_putI (zs_putI (k := 3) rfl (by decide) (by decide +kernel) rfl rfl (by decide +kernel) zw_293)) <|
  zA_c (zs_vret (by decide +kernel) rfl) <|
  zA_n
def zc_180 : Nat → zmI := zgetC [zcl_180_0]
theorem zmf_180 (l : Launch) : zMf l zc_180 180 := ⟨by decide +kernel, false, (fun h => by cases h), fun pc => zgetC_ok (zA2_c (zmc_180_0 l) (zA2_n)) pc⟩
def zcl_181_0 : List (Nat × zmI) := [(0, zm_aload 1 0), (1, zm_iload 2 1), (2, zm_call 5 110 2 true 0), (5, zm_ifne 8 15), (8, zm_iload 9 2), (9, zm_call 12 177 1 true 99), (12, zm_ifeq 15 18), (15, zm_push 17 (-2)), (17, zm_iret), (18, zm_aload 19 0), (19, zm_getR 22 0 12), (22, zm_iload 23 1), (23, zm_aald 24 107), (24, zm_iload 25 2), (25, zm_iload 26 3), (26, zm_call 29 182 3 true 99), (29, zm_istore 31 5), (31, zm_iload 33 5)]
theorem zmc_181_0 (l : Launch) : zAll l "ChessWire" prog_1_method_29_code 6 false (some .int) zcl_181_0 :=
  zA_c (zOk_fl zn_aload (zs_aload_n (q := 0) rfl (by decide +kernel))) <|
  zA_c (zOk_fl zn_iload (zs_iload_n (q := 1) rfl (by decide +kernel))) <|
  zA_c (zk_V zq_110 zw_750 rfl (by decide +kernel)) <|
  zA_c (zOk_fl zn_ifne (zs_ifne (off := 10) (by decide +kernel) (by decide))) <|
  zA_c (zOk_fl zn_iload (zs_iload_n (q := 2) rfl (by decide +kernel))) <|
  zA_c (zk_S zq_177 zw_1051 (by decide +kernel)) <|
  zA_c (zOk_fl zn_ifeq (zs_ifeq (off := 6) (by decide +kernel) (by decide))) <|
  zA_c (zOk_fl zn_push (zs_bipush (n := (-2)) (by decide +kernel) rfl)) <|
  zA_c (zs_iret (by decide +kernel) rfl) <|
  zA_c (zOk_fl zn_aload (zs_aload_n (q := 0) rfl (by decide +kernel))) <|
  zA_c (zOk_fl zn_getR (zs_getR (k := 12) rfl (by decide) (by decide +kernel) rfl (by decide +kernel) zw_315)) <|
  zA_c (zOk_fl zn_iload (zs_iload_n (q := 1) rfl (by decide +kernel))) <|
  zA_c (zOk_fl zn_aald (zs_aald (t := 7) (by decide) (by decide) rfl rfl (by decide +kernel))) <|
  zA_c (zOk_fl zn_iload (zs_iload_n (q := 2) rfl (by decide +kernel))) <|
  zA_c (zOk_fl zn_iload (zs_iload_n (q := 3) rfl (by decide +kernel))) <|
  zA_c (zk_S zq_182 zw_1073 (by decide +kernel)) <|
  zA_c (zOk_fl zn_istore (zs_istore (by decide +kernel))) <|
  zA_c (zOk_fl zn_iload (zs_iload (by decide +kernel))) <|
  zA_n
def zcl_181_1 : List (Nat × zmI) := [(33, zm_ifeq 36 43), (36, zm_aload 37 0), (37, zm_iload 39 5), (39, zm_call 42 112 2 true 0), (42, zm_iret), (43, zm_aload 44 0), (44, zm_getR 47 0 12), (47, zm_iload 48 1), (48, zm_aald 49 107), (49, zm_iload 50 3), (50, zm_iload 52 4), (52, zm_call 55 185 3 false 11), (55, zm_push 56 1), (56, zm_iret)]
theorem zmc_181_1 (l : Launch) : zAll l "ChessWire" prog_1_method_29_code 6 false (some .int) zcl_181_1 :=
  zA_c (zOk_fl zn_ifeq (zs_ifeq (off := 10) (by decide +kernel) (by decide))) <|
  zA_c (zOk_fl zn_aload (zs_aload_n (q := 0) rfl (by decide +kernel))) <|
  zA_c (zOk_fl zn_iload (zs_iload (by decide +kernel))) <|
  zA_c (zk_V zq_112 zw_758 rfl (by decide +kernel)) <|
  zA_c (zs_iret (by decide +kernel) rfl) <|
  zA_c (zOk_fl zn_aload (zs_aload_n (q := 0) rfl (by decide +kernel))) <|
  zA_c (zOk_fl zn_getR (zs_getR (k := 12) rfl (by decide) (by decide +kernel) rfl (by decide +kernel) zw_315)) <|
  zA_c (zOk_fl zn_iload (zs_iload_n (q := 1) rfl (by decide +kernel))) <|
  zA_c (zOk_fl zn_aald (zs_aald (t := 7) (by decide) (by decide) rfl rfl (by decide +kernel))) <|
  zA_c (zOk_fl zn_iload (zs_iload_n (q := 3) rfl (by decide +kernel))) <|
  zA_c (zOk_fl zn_iload (zs_iload (by decide +kernel))) <|
  zA_c (zk_V zq_185 zw_1084 rfl (by decide +kernel)) <|
  zA_c (zOk_fl zn_push (zs_iconst (n := 1) (by decide +kernel) rfl)) <|
  zA_c (zs_iret (by decide +kernel) rfl) <|
  zA_n
def zc_181 : Nat → zmI := zgetC [zcl_181_0, zcl_181_1]
theorem zmf_181 (l : Launch) : zMf l zc_181 181 := ⟨by decide +kernel, false, (fun h => by cases h), fun pc => zgetC_ok (zA2_c (zmc_181_0 l) (zA2_c (zmc_181_1 l) (zA2_n))) pc⟩
def zcl_182_0 : List (Nat × zmI) := [(0, zm_aload 1 0), (1, zm_call 4 111 1 true 11), (4, zm_ifeq 7 9), (7, zm_push 8 1), (8, zm_iret), (9, zm_aload 10 0), (10, zm_call 13 183 1 true 11), (13, zm_iload 14 1), (14, zm_iceq 17 19), (17, zm_push 18 3), (18, zm_iret), (19, zm_aload 20 0), (20, zm_iload 21 2), (21, zm_push 22 1), (22, zm_call 25 184 3 true 11), (25, zm_ifeq 28 32), (28, zm_push 29 0), (29, zm_goto 33)]
theorem zmc_182_0 (l : Launch) : zAll l "ChessWire" prog_1_method_41_code 3 false (some .int) zcl_182_0 :=
  zA_c (zOk_fl zn_aload (zs_aload_n (q := 0) rfl (by decide +kernel))) <|
  zA_c (zk_V zq_111 zw_754 rfl (by decide +kernel)) <|
  zA_c (zOk_fl zn_ifeq (zs_ifeq (off := 5) (by decide +kernel) (by decide))) <|
  zA_c (zOk_fl zn_push (zs_iconst (n := 1) (by decide +kernel) rfl)) <|
  zA_c (zs_iret (by decide +kernel) rfl) <|
  zA_c (zOk_fl zn_aload (zs_aload_n (q := 0) rfl (by decide +kernel))) <|
  zA_c (zk_V zq_183 zw_1076 rfl (by decide +kernel)) <|
  zA_c (zOk_fl zn_iload (zs_iload_n (q := 1) rfl (by decide +kernel))) <|
  zA_c (zOk_fl zn_iceq (zs_iceq (off := 5) (by decide +kernel) (by decide))) <|
  zA_c (zOk_fl zn_push (zs_iconst (n := 3) (by decide +kernel) rfl)) <|
  zA_c (zs_iret (by decide +kernel) rfl) <|
  zA_c (zOk_fl zn_aload (zs_aload_n (q := 0) rfl (by decide +kernel))) <|
  zA_c (zOk_fl zn_iload (zs_iload_n (q := 2) rfl (by decide +kernel))) <|
  zA_c (zOk_fl zn_push (zs_iconst (n := 1) (by decide +kernel) rfl)) <|
  zA_c (zk_V zq_184 zw_1080 rfl (by decide +kernel)) <|
  zA_c (zOk_fl zn_ifeq (zs_ifeq (off := 7) (by decide +kernel) (by decide))) <|
  zA_c (zOk_fl zn_push (zs_iconst (n := 0) (by decide +kernel) rfl)) <|
  zA_c (zOk_fl zn_goto (zs_goto (off := 4) (by decide +kernel) (by decide))) <|
  zA_n
def zcl_182_1 : List (Nat × zmI) := [(32, zm_push 33 2), (33, zm_iret)]
theorem zmc_182_1 (l : Launch) : zAll l "ChessWire" prog_1_method_41_code 3 false (some .int) zcl_182_1 :=
  zA_c (zOk_fl zn_push (zs_iconst (n := 2) (by decide +kernel) rfl)) <|
  zA_c (zs_iret (by decide +kernel) rfl) <|
  zA_n
def zc_182 : Nat → zmI := zgetC [zcl_182_0, zcl_182_1]
theorem zmf_182 (l : Launch) : zMf l zc_182 182 := ⟨by decide +kernel, false, (fun h => by cases h), fun pc => zgetC_ok (zA2_c (zmc_182_0 l) (zA2_c (zmc_182_1 l) (zA2_n))) pc⟩
def zcl_183_0 : List (Nat × zmI) := [(0, zm_aload 1 0), (1, zm_getI 4 11 2), (4, zm_iret)]
theorem zmc_183_0 (l : Launch) : zAll l "ChessWire$Sheet" prog_11_method_6_code 1 false (some .int) zcl_183_0 :=
  zA_c (zOk_fl zn_aload (zs_aload_n (q := 0) rfl (by decide +kernel))) <|
  zA_c (zOk_fl zn_getI (zs_getI (k := 2) rfl (by decide) (by decide +kernel) rfl (by decide +kernel) zw_292)) <|
  zA_c (zs_iret (by decide +kernel) rfl) <|
  zA_n
def zc_183 : Nat → zmI := zgetC [zcl_183_0]
theorem zmf_183 (l : Launch) : zMf l zc_183 183 := ⟨by decide +kernel, false, (fun h => by cases h), fun pc => zgetC_ok (zA2_c (zmc_183_0 l) (zA2_n)) pc⟩
def zcl_184_0 : List (Nat × zmI) := [(0, zm_iload 1 1), (1, zm_iflt 4 30), (4, zm_iload 5 2), (5, zm_iflt 8 30), (8, zm_iload 9 1), (9, zm_aload 10 0), (10, zm_getI 13 11 3), (13, zm_icgt 16 30), (16, zm_iload 17 2), (17, zm_aload 18 0), (18, zm_getI 21 11 3), (21, zm_iload 22 1), (22, zm_bin 23 (fun x y => w32 (x - y))), (23, zm_icgt 26 30), (26, zm_push 27 1), (27, zm_goto 31), (30, zm_push 31 0), (31, zm_zret)]
theorem zmc_184_0 (l : Launch) : zAll l "ChessWire$Sheet" prog_11_method_8_code 3 false (some .boolean) zcl_184_0 :=
  zA_c (zOk_fl zn_iload (zs_iload_n (q := 1) rfl (by decide +kernel))) <|
  zA_c (zOk_fl zn_iflt (zs_iflt (off := 29) (by decide +kernel) (by decide))) <|
  zA_c (zOk_fl zn_iload (zs_iload_n (q := 2) rfl (by decide +kernel))) <|
  zA_c (zOk_fl zn_iflt (zs_iflt (off := 25) (by decide +kernel) (by decide))) <|
  zA_c (zOk_fl zn_iload (zs_iload_n (q := 1) rfl (by decide +kernel))) <|
  zA_c (zOk_fl zn_aload (zs_aload_n (q := 0) rfl (by decide +kernel))) <|
  zA_c (zOk_fl zn_getI (zs_getI (k := 3) rfl (by decide) (by decide +kernel) rfl (by decide +kernel) zw_293)) <|
  zA_c (zOk_fl zn_icgt (zs_icgt (off := 17) (by decide +kernel) (by decide))) <|
  zA_c (zOk_fl zn_iload (zs_iload_n (q := 2) rfl (by decide +kernel))) <|
  zA_c (zOk_fl zn_aload (zs_aload_n (q := 0) rfl (by decide +kernel))) <|
  zA_c (zOk_fl zn_getI (zs_getI (k := 3) rfl (by decide) (by decide +kernel) rfl (by decide +kernel) zw_293)) <|
  zA_c (zOk_fl zn_iload (zs_iload_n (q := 1) rfl (by decide +kernel))) <|
  zA_c (zOk_fl zn_bin (zs_isub (by decide +kernel))) <|
  zA_c (zOk_fl zn_icgt (zs_icgt (off := 7) (by decide +kernel) (by decide))) <|
  zA_c (zOk_fl zn_push (zs_iconst (n := 1) (by decide +kernel) rfl)) <|
  zA_c (zOk_fl zn_goto (zs_goto (off := 4) (by decide +kernel) (by decide))) <|
  zA_c (zOk_fl zn_push (zs_iconst (n := 0) (by decide +kernel) rfl)) <|
  zA_c (zs_zret (by decide +kernel) rfl) <|
  zA_n
def zc_184 : Nat → zmI := zgetC [zcl_184_0]
theorem zmf_184 (l : Launch) : zMf l zc_184 184 := ⟨by decide +kernel, false, (fun h => by cases h), fun pc => zgetC_ok (zA2_c (zmc_184_0 l) (zA2_n)) pc⟩
def zcl_185_0 : List (Nat × zmI) := [(0, zm_iload 1 1), (1, zm_iflt 4 44), (4, zm_iload 5 1), (5, zm_aload 6 0), (6, zm_getI 9 11 3), (9, zm_icge 12 44), (12, zm_aload 13 0), (13, zm_getR 16 11 0), (16, zm_iload 17 1), (17, zm_aload 18 0), (18, zm_getI 21 11 2), (21, zm_ifne 24 29), (24, zm_iload 25 2), (25, zm_un 26 z_i2b), (26, zm_goto 43), (29, zm_aload 30 0), (30, zm_getI 33 11 2)]
theorem zmc_185_0 (l : Launch) : zAll l "ChessWire$Sheet" prog_11_method_10_code 3 false (none) zcl_185_0 :=
  zA_c (zOk_fl zn_iload (zs_iload_n (q := 1) rfl (by decide +kernel))) <|
  zA_c (zOk_fl zn_iflt (zs_iflt (off := 43) (by decide +kernel) (by decide))) <|
  zA_c (zOk_fl zn_iload (zs_iload_n (q := 1) rfl (by decide +kernel))) <|
  zA_c (zOk_fl zn_aload (zs_aload_n (q := 0) rfl (by decide +kernel))) <|
  zA_c (zOk_fl zn_getI (zs_getI (k := 3) rfl (by decide) (by decide +kernel) rfl (by decide +kernel) zw_293)) <|
  zA_c (zOk_fl zn_icge (zs_icge (off := 35) (by decide +kernel) (by decide))) <|
  zA_c (zOk_fl zn_aload (zs_aload_n (q := 0) rfl (by decide +kernel))) <|
  zA_c (zOk_fl zn_getR (zs_getR (k := 0) rfl (by decide) (by decide +kernel) rfl (by decide +kernel) zw_290)) <|
  zA_c (zOk_fl zn_iload (zs_iload_n (q := 1) rfl (by decide +kernel))) <|
  zA_c (zOk_fl zn_aload (zs_aload_n (q := 0) rfl (by decide +kernel))) <|
  zA_c (zOk_fl zn_getI (zs_getI (k := 2) rfl (by decide) (by decide +kernel) rfl (by decide +kernel) zw_292)) <|
  zA_c (zOk_fl zn_ifne (zs_ifne (off := 8) (by decide +kernel) (by decide))) <|
  zA_c (zOk_fl zn_iload (zs_iload_n (q := 2) rfl (by decide +kernel))) <|
  zA_c (zOk_fl zn_un (zs_i2b (by decide +kernel))) <|
  zA_c (zOk_fl zn_goto (zs_goto (off := 17) (by decide +kernel) (by decide))) <|
  zA_c (zOk_fl zn_aload (zs_aload_n (q := 0) rfl (by decide +kernel))) <|
  zA_c (zOk_fl zn_getI (zs_getI (k := 2) rfl (by decide) (by decide +kernel) rfl (by decide +kernel) zw_292)) <|
  zA_n
def zcl_185_1 : List (Nat × zmI) := [(33, zm_push 34 1), (34, zm_icne 37 42), (37, zm_iload 38 2), (38, zm_un 39 z_i2s), (39, zm_goto 43), (42, zm_iload 43 2), (43, zm_iast 44), (44, zm_vret)]
theorem zmc_185_1 (l : Launch) : zAll l "ChessWire$Sheet" prog_11_method_10_code 3 false (none) zcl_185_1 :=
  zA_c (zOk_fl zn_push (zs_iconst (n := 1) (by decide +kernel) rfl)) <|
  zA_c (zOk_fl zn_icne (zs_icne (off := 8) (by decide +kernel) (by decide))) <|
  zA_c (zOk_fl zn_iload (zs_iload_n (q := 2) rfl (by decide +kernel))) <|
  zA_c (zOk_fl zn_un (zs_i2s (by decide +kernel))) <|
  zA_c (zOk_fl zn_goto (zs_goto (off := 4) (by decide +kernel) (by decide))) <|
  zA_c (zOk_fl zn_iload (zs_iload_n (q := 2) rfl (by decide +kernel))) <|
  zA_c (zOk_sn zn_iast (zs_iast (by decide +kernel))) <|
  zA_c (zs_vret (by decide +kernel) rfl) <|
  zA_n
def zc_185 : Nat → zmI := zgetC [zcl_185_0, zcl_185_1]
theorem zmf_185 (l : Launch) : zMf l zc_185 185 := ⟨by decide +kernel, false, (fun h => by cases h), fun pc => zgetC_ok (zA2_c (zmc_185_0 l) (zA2_c (zmc_185_1 l) (zA2_n))) pc⟩
def zcl_186_0 : List (Nat × zmI) := [(0, zm_aload 1 0), (1, zm_iload 2 1), (2, zm_call 5 110 2 true 0), (5, zm_ifne 8 15), (8, zm_iload 9 2), (9, zm_call 12 177 1 true 99), (12, zm_ifeq 15 19), (15, zm_push 18 (-2147483648)), (18, zm_iret), (19, zm_aload 20 0), (20, zm_getR 23 0 12), (23, zm_iload 24 1), (24, zm_aald 25 107), (25, zm_iload 26 2), (26, zm_iload 27 3), (27, zm_call 30 182 3 true 99), (30, zm_istore 32 4)]
theorem zmc_186_0 (l : Launch) : zAll l "ChessWire" prog_1_method_30_code 5 false (some .int) zcl_186_0 :=
  zA_c (zOk_fl zn_aload (zs_aload_n (q := 0) rfl (by decide +kernel))) <|
  zA_c (zOk_fl zn_iload (zs_iload_n (q := 1) rfl (by decide +kernel))) <|
  zA_c (zk_V zq_110 zw_750 rfl (by decide +kernel)) <|
  zA_c (zOk_fl zn_ifne (zs_ifne (off := 10) (by decide +kernel) (by decide))) <|
  zA_c (zOk_fl zn_iload (zs_iload_n (q := 2) rfl (by decide +kernel))) <|
  zA_c (zk_S zq_177 zw_1051 (by decide +kernel)) <|
  zA_c (zOk_fl zn_ifeq (zs_ifeq (off := 7) (by decide +kernel) (by decide))) <|
  zA_c (zOk_fl zn_push (zs_ldcw (by decide +kernel) zw_1092 rfl)) <|
  zA_c (zs_iret (by decide +kernel) rfl) <|
  zA_c (zOk_fl zn_aload (zs_aload_n (q := 0) rfl (by decide +kernel))) <|
  zA_c (zOk_fl zn_getR (zs_getR (k := 12) rfl (by decide) (by decide +kernel) rfl (by decide +kernel) zw_315)) <|
  zA_c (zOk_fl zn_iload (zs_iload_n (q := 1) rfl (by decide +kernel))) <|
  zA_c (zOk_fl zn_aald (zs_aald (t := 7) (by decide) (by decide) rfl rfl (by decide +kernel))) <|
  zA_c (zOk_fl zn_iload (zs_iload_n (q := 2) rfl (by decide +kernel))) <|
  zA_c (zOk_fl zn_iload (zs_iload_n (q := 3) rfl (by decide +kernel))) <|
  zA_c (zk_S zq_182 zw_1073 (by decide +kernel)) <|
  zA_c (zOk_fl zn_istore (zs_istore (by decide +kernel))) <|
  zA_n
def zcl_186_1 : List (Nat × zmI) := [(32, zm_iload 34 4), (34, zm_ifeq 37 48), (37, zm_aload 38 0), (38, zm_iload 40 4), (40, zm_call 43 112 2 true 0), (43, zm_pop 44), (44, zm_push 47 (-2147483648)), (47, zm_iret), (48, zm_aload 49 0), (49, zm_getR 52 0 12), (52, zm_iload 53 1), (53, zm_aald 54 107), (54, zm_iload 55 3), (55, zm_call 58 114 2 true 11), (58, zm_iret)]
theorem zmc_186_1 (l : Launch) : zAll l "ChessWire" prog_1_method_30_code 5 false (some .int) zcl_186_1 :=
  zA_c (zOk_fl zn_iload (zs_iload (by decide +kernel))) <|
  zA_c (zOk_fl zn_ifeq (zs_ifeq (off := 14) (by decide +kernel) (by decide))) <|
  zA_c (zOk_fl zn_aload (zs_aload_n (q := 0) rfl (by decide +kernel))) <|
  zA_c (zOk_fl zn_iload (zs_iload (by decide +kernel))) <|
  zA_c (zk_V zq_112 zw_758 rfl (by decide +kernel)) <|
  zA_c (zOk_fl zn_pop (zs_pop (by decide +kernel))) <|
  zA_c (zOk_fl zn_push (zs_ldcw (by decide +kernel) zw_1092 rfl)) <|
  zA_c (zs_iret (by decide +kernel) rfl) <|
  zA_c (zOk_fl zn_aload (zs_aload_n (q := 0) rfl (by decide +kernel))) <|
  zA_c (zOk_fl zn_getR (zs_getR (k := 12) rfl (by decide) (by decide +kernel) rfl (by decide +kernel) zw_315)) <|
  zA_c (zOk_fl zn_iload (zs_iload_n (q := 1) rfl (by decide +kernel))) <|
  zA_c (zOk_fl zn_aald (zs_aald (t := 7) (by decide) (by decide) rfl rfl (by decide +kernel))) <|
  zA_c (zOk_fl zn_iload (zs_iload_n (q := 3) rfl (by decide +kernel))) <|
  zA_c (zk_V zq_114 zw_766 rfl (by decide +kernel)) <|
  zA_c (zs_iret (by decide +kernel) rfl) <|
  zA_n
def zc_186 : Nat → zmI := zgetC [zcl_186_0, zcl_186_1]
theorem zmf_186 (l : Launch) : zMf l zc_186 186 := ⟨by decide +kernel, false, (fun h => by cases h), fun pc => zgetC_ok (zA2_c (zmc_186_0 l) (zA2_c (zmc_186_1 l) (zA2_n))) pc⟩
def zcl_187_0 : List (Nat × zmI) := [(0, zm_aload 1 0), (1, zm_iload 2 1), (2, zm_call 5 110 2 true 0), (5, zm_ifne 8 16), (8, zm_aload 9 0), (9, zm_iload 10 3), (10, zm_call 13 110 2 true 0), (13, zm_ifeq 16 19), (16, zm_push 18 (-2)), (18, zm_iret), (19, zm_aload 20 0), (20, zm_getR 23 0 12), (23, zm_iload 24 1), (24, zm_aald 25 107), (25, zm_astore 27 6), (27, zm_aload 28 0), (28, zm_getR 31 0 12), (31, zm_iload 32 3)]
theorem zmc_187_0 (l : Launch) : zAll l "ChessWire" prog_1_method_31_code 8 false (some .int) zcl_187_0 :=
  zA_c (zOk_fl zn_aload (zs_aload_n (q := 0) rfl (by decide +kernel))) <|
  zA_c (zOk_fl zn_iload (zs_iload_n (q := 1) rfl (by decide +kernel))) <|
  zA_c (zk_V zq_110 zw_750 rfl (by decide +kernel)) <|
  zA_c (zOk_fl zn_ifne (zs_ifne (off := 11) (by decide +kernel) (by decide))) <|
  zA_c (zOk_fl zn_aload (zs_aload_n (q := 0) rfl (by decide +kernel))) <|
  zA_c (zOk_fl zn_iload (zs_iload_n (q := 3) rfl (by decide +kernel))) <|
  zA_c (zk_V zq_110 zw_750 rfl (by decide +kernel)) <|
  zA_c (zOk_fl zn_ifeq (zs_ifeq (off := 6) (by decide +kernel) (by decide))) <|
  zA_c (zOk_fl zn_push (zs_bipush (n := (-2)) (by decide +kernel) rfl)) <|
  zA_c (zs_iret (by decide +kernel) rfl) <|
  zA_c (zOk_fl zn_aload (zs_aload_n (q := 0) rfl (by decide +kernel))) <|
  zA_c (zOk_fl zn_getR (zs_getR (k := 12) rfl (by decide) (by decide +kernel) rfl (by decide +kernel) zw_315)) <|
  zA_c (zOk_fl zn_iload (zs_iload_n (q := 1) rfl (by decide +kernel))) <|
  zA_c (zOk_fl zn_aald (zs_aald (t := 7) (by decide) (by decide) rfl rfl (by decide +kernel))) <|
  zA_c (zOk_fl zn_astore (zs_astore (by decide +kernel))) <|
  zA_c (zOk_fl zn_aload (zs_aload_n (q := 0) rfl (by decide +kernel))) <|
  zA_c (zOk_fl zn_getR (zs_getR (k := 12) rfl (by decide) (by decide +kernel) rfl (by decide +kernel) zw_315)) <|
  zA_c (zOk_fl zn_iload (zs_iload_n (q := 3) rfl (by decide +kernel))) <|
  zA_n
def zcl_187_1 : List (Nat × zmI) := [(32, zm_aald 33 107), (33, zm_astore 35 7), (35, zm_aload 37 6), (37, zm_call 40 111 1 true 11), (40, zm_ifne 43 51), (43, zm_aload 45 7), (45, zm_call 48 111 1 true 11), (48, zm_ifeq 51 57), (51, zm_aload 52 0), (52, zm_push 53 1), (53, zm_call 56 112 2 true 0), (56, zm_iret), (57, zm_aload 59 6), (59, zm_call 62 183 1 true 11), (62, zm_aload 64 7)]
theorem zmc_187_1 (l : Launch) : zAll l "ChessWire" prog_1_method_31_code 8 false (some .int) zcl_187_1 :=
  zA_c (zOk_fl zn_aald (zs_aald (t := 7) (by decide) (by decide) rfl rfl (by decide +kernel))) <|
  zA_c (zOk_fl zn_astore (zs_astore (by decide +kernel))) <|
  zA_c (zOk_fl zn_aload (zs_aload (by decide +kernel))) <|
  zA_c (zk_V zq_111 zw_754 rfl (by decide +kernel)) <|
  zA_c (zOk_fl zn_ifne (zs_ifne (off := 11) (by decide +kernel) (by decide))) <|
  zA_c (zOk_fl zn_aload (zs_aload (by decide +kernel))) <|
  zA_c (zk_V zq_111 zw_754 rfl (by decide +kernel)) <|
  zA_c (zOk_fl zn_ifeq (zs_ifeq (off := 9) (by decide +kernel) (by decide))) <|
  zA_c (zOk_fl zn_aload (zs_aload_n (q := 0) rfl (by decide +kernel))) <|
  zA_c (zOk_fl zn_push (zs_iconst (n := 1) (by decide +kernel) rfl)) <|
  zA_c (zk_V zq_112 zw_758 rfl (by decide +kernel)) <|
  zA_c (zs_iret (by decide +kernel) rfl) <|
  zA_c (zOk_fl zn_aload (zs_aload (by decide +kernel))) <|
  zA_c (zk_V zq_183 zw_1076 rfl (by decide +kernel)) <|
  zA_c (zOk_fl zn_aload (zs_aload (by decide +kernel))) <|
  zA_n
def zcl_187_2 : List (Nat × zmI) := [(64, zm_call 67 183 1 true 11), (67, zm_iceq 70 76), (70, zm_aload 71 0), (71, zm_push 72 4), (72, zm_call 75 112 2 true 0), (75, zm_iret), (76, zm_aload 78 6), (78, zm_iload 79 2), (79, zm_iload 81 5), (81, zm_call 84 184 3 true 11), (84, zm_ifeq 87 99), (87, zm_aload 89 7), (89, zm_iload 91 4), (91, zm_iload 93 5), (93, zm_call 96 184 3 true 11)]
theorem zmc_187_2 (l : Launch) : zAll l "ChessWire" prog_1_method_31_code 8 false (some .int) zcl_187_2 :=
  zA_c (zk_V zq_183 zw_1076 rfl (by decide +kernel)) <|
  zA_c (zOk_fl zn_iceq (zs_iceq (off := 9) (by decide +kernel) (by decide))) <|
  zA_c (zOk_fl zn_aload (zs_aload_n (q := 0) rfl (by decide +kernel))) <|
  zA_c (zOk_fl zn_push (zs_iconst (n := 4) (by decide +kernel) rfl)) <|
  zA_c (zk_V zq_112 zw_758 rfl (by decide +kernel)) <|
  zA_c (zs_iret (by decide +kernel) rfl) <|
  zA_c (zOk_fl zn_aload (zs_aload (by decide +kernel))) <|
  zA_c (zOk_fl zn_iload (zs_iload_n (q := 2) rfl (by decide +kernel))) <|
  zA_c (zOk_fl zn_iload (zs_iload (by decide +kernel))) <|
  zA_c (zk_V zq_184 zw_1080 rfl (by decide +kernel)) <|
  zA_c (zOk_fl zn_ifeq (zs_ifeq (off := 15) (by decide +kernel) (by decide))) <|
  zA_c (zOk_fl zn_aload (zs_aload (by decide +kernel))) <|
  zA_c (zOk_fl zn_iload (zs_iload (by decide +kernel))) <|
  zA_c (zOk_fl zn_iload (zs_iload (by decide +kernel))) <|
  zA_c (zk_V zq_184 zw_1080 rfl (by decide +kernel)) <|
  zA_n
def zcl_187_3 : List (Nat × zmI) := [(96, zm_ifne 99 105), (99, zm_aload 100 0), (100, zm_push 101 2), (101, zm_call 104 112 2 true 0), (104, zm_iret), (105, zm_aload 107 7), (107, zm_aload 109 6), (109, zm_iload 110 2), (110, zm_iload 112 4), (112, zm_iload 114 5), (114, zm_call 117 188 5 false 11), (117, zm_push 118 1), (118, zm_iret)]
theorem zmc_187_3 (l : Launch) : zAll l "ChessWire" prog_1_method_31_code 8 false (some .int) zcl_187_3 :=
  zA_c (zOk_fl zn_ifne (zs_ifne (off := 9) (by decide +kernel) (by decide))) <|
  zA_c (zOk_fl zn_aload (zs_aload_n (q := 0) rfl (by decide +kernel))) <|
  zA_c (zOk_fl zn_push (zs_iconst (n := 2) (by decide +kernel) rfl)) <|
  zA_c (zk_V zq_112 zw_758 rfl (by decide +kernel)) <|
  zA_c (zs_iret (by decide +kernel) rfl) <|
  zA_c (zOk_fl zn_aload (zs_aload (by decide +kernel))) <|
  zA_c (zOk_fl zn_aload (zs_aload (by decide +kernel))) <|
  zA_c (zOk_fl zn_iload (zs_iload_n (q := 2) rfl (by decide +kernel))) <|
  zA_c (zOk_fl zn_iload (zs_iload (by decide +kernel))) <|
  zA_c (zOk_fl zn_iload (zs_iload (by decide +kernel))) <|
  zA_c (zk_V zq_188 zw_1097 rfl (by decide +kernel)) <|
  zA_c (zOk_fl zn_push (zs_iconst (n := 1) (by decide +kernel) rfl)) <|
  zA_c (zs_iret (by decide +kernel) rfl) <|
  zA_n
def zc_187 : Nat → zmI := zgetC [zcl_187_0, zcl_187_1, zcl_187_2, zcl_187_3]
theorem zmf_187 (l : Launch) : zMf l zc_187 187 := ⟨by decide +kernel, false, (fun h => by cases h), fun pc => zgetC_ok (zA2_c (zmc_187_0 l) (zA2_c (zmc_187_1 l) (zA2_c (zmc_187_2 l) (zA2_c (zmc_187_3 l) (zA2_n))))) pc⟩
def zcl_188_0 : List (Nat × zmI) := [(0, zm_aload 1 1), (1, zm_iload 2 2), (2, zm_iload 4 4), (4, zm_call 7 184 3 true 11), (7, zm_ifeq 10 35), (10, zm_aload 11 0), (11, zm_iload 12 3), (12, zm_iload 14 4), (14, zm_call 17 184 3 true 11), (17, zm_ifeq 20 35), (20, zm_aload 21 1), (21, zm_getR 24 11 0), (24, zm_iload 25 2), (25, zm_aload 26 0), (26, zm_getR 29 11 0), (29, zm_iload 30 3), (30, zm_iload 32 4)]
theorem zmc_188_0 (l : Launch) : zAll l "ChessWire$Sheet" prog_11_method_11_code 5 false (none) zcl_188_0 :=
  zA_c (zOk_fl zn_aload (zs_aload_n (q := 1) rfl (by decide +kernel))) <|
  zA_c (zOk_fl zn_iload (zs_iload_n (q := 2) rfl (by decide +kernel))) <|
  zA_c (zOk_fl zn_iload (zs_iload (by decide +kernel))) <|
  zA_c (zk_V zq_184 zw_1101 rfl (by decide +kernel)) <|
  zA_c (zOk_fl zn_ifeq (zs_ifeq (off := 28) (by decide +kernel) (by decide))) <|
  zA_c (zOk_fl zn_aload (zs_aload_n (q := 0) rfl (by decide +kernel))) <|
  zA_c (zOk_fl zn_iload (zs_iload_n (q := 3) rfl (by decide +kernel))) <|
  zA_c (zOk_fl zn_iload (zs_iload (by decide +kernel))) <|
  zA_c (zk_V zq_184 zw_1101 rfl (by decide +kernel)) <|
  zA_c (zOk_fl zn_ifeq (zs_ifeq (off := 18) (by decide +kernel) (by decide))) <|
  zA_c (zOk_fl zn_aload (zs_aload_n (q := 1) rfl (by decide +kernel))) <|
  zA_c (zOk_fl zn_getR (zs_getR (k := 0) rfl (by decide) (by decide +kernel) rfl (by decide +kernel) zw_290)) <|
  zA_c (zOk_fl zn_iload (zs_iload_n (q := 2) rfl (by decide +kernel))) <|
  zA_c (zOk_fl zn_aload (zs_aload_n (q := 0) rfl (by decide +kernel))) <|
  zA_c (zOk_fl zn_getR (zs_getR (k := 0) rfl (by decide) (by decide +kernel) rfl (by decide +kernel) zw_290)) <|
  zA_c (zOk_fl zn_iload (zs_iload_n (q := 3) rfl (by decide +kernel))) <|
  zA_c (zOk_fl zn_iload (zs_iload (by decide +kernel))) <|
  zA_n
def zcl_188_1 : List (Nat × zmI) := [(32, zm_copy 35), (35, zm_vret)]
theorem zmc_188_1 (l : Launch) : zAll l "ChessWire$Sheet" prog_11_method_11_code 5 false (none) zcl_188_1 :=
  zA_c (zOk_sn zn_copy (zs_copy (by decide +kernel) zw_1102 zw_864 zw_863 zw_23)) <|
  zA_c (zs_vret (by decide +kernel) rfl) <|
  zA_n
def zc_188 : Nat → zmI := zgetC [zcl_188_0, zcl_188_1]
theorem zmf_188 (l : Launch) : zMf l zc_188 188 := ⟨by decide +kernel, false, (fun h => by cases h), fun pc => zgetC_ok (zA2_c (zmc_188_0 l) (zA2_c (zmc_188_1 l) (zA2_n))) pc⟩
def zcl_189_0 : List (Nat × zmI) := [(0, zm_aload 1 0), (1, zm_iload 2 1), (2, zm_call 5 110 2 true 0), (5, zm_ifeq 8 11), (8, zm_push 10 (-2)), (10, zm_iret), (11, zm_aload 12 0), (12, zm_getR 15 0 12), (15, zm_iload 16 1), (16, zm_aald 17 107), (17, zm_call 20 111 1 true 11), (20, zm_ifeq 23 29), (23, zm_aload 24 0), (24, zm_push 25 1), (25, zm_call 28 112 2 true 0), (28, zm_iret), (29, zm_aload 30 0), (30, zm_call 33 74 1 false 0)]
theorem zmc_189_0 (l : Launch) : zAll l "ChessWire" prog_1_method_32_code 4 false (some .int) zcl_189_0 :=
  zA_c (zOk_fl zn_aload (zs_aload_n (q := 0) rfl (by decide +kernel))) <|
  zA_c (zOk_fl zn_iload (zs_iload_n (q := 1) rfl (by decide +kernel))) <|
  zA_c (zk_V zq_110 zw_750 rfl (by decide +kernel)) <|
  zA_c (zOk_fl zn_ifeq (zs_ifeq (off := 6) (by decide +kernel) (by decide))) <|
  zA_c (zOk_fl zn_push (zs_bipush (n := (-2)) (by decide +kernel) rfl)) <|
  zA_c (zs_iret (by decide +kernel) rfl) <|
  zA_c (zOk_fl zn_aload (zs_aload_n (q := 0) rfl (by decide +kernel))) <|
  zA_c (zOk_fl zn_getR (zs_getR (k := 12) rfl (by decide) (by decide +kernel) rfl (by decide +kernel) zw_315)) <|
  zA_c (zOk_fl zn_iload (zs_iload_n (q := 1) rfl (by decide +kernel))) <|
  zA_c (zOk_fl zn_aald (zs_aald (t := 7) (by decide) (by decide) rfl rfl (by decide +kernel))) <|
  zA_c (zk_V zq_111 zw_754 rfl (by decide +kernel)) <|
  zA_c (zOk_fl zn_ifeq (zs_ifeq (off := 9) (by decide +kernel) (by decide))) <|
  zA_c (zOk_fl zn_aload (zs_aload_n (q := 0) rfl (by decide +kernel))) <|
  zA_c (zOk_fl zn_push (zs_iconst (n := 1) (by decide +kernel) rfl)) <|
  zA_c (zk_V zq_112 zw_758 rfl (by decide +kernel)) <|
  zA_c (zs_iret (by decide +kernel) rfl) <|
  zA_c (zOk_fl zn_aload (zs_aload_n (q := 0) rfl (by decide +kernel))) <|
  zA_c (zk_V zq_74 zw_593 rfl (by decide +kernel)) <|
  zA_n
def zcl_189_1 : List (Nat × zmI) := [(33, zm_aload 34 0), (34, zm_getR 37 0 12), (37, zm_iload 38 1), (38, zm_aald 39 107), (39, zm_call 42 113 1 true 11), (42, zm_aload 43 0), (43, zm_getR 46 0 5), (46, zm_call 49 90 1 true 5), (49, zm_call 52 35 2 true 99), (52, zm_istore 53 2), (53, zm_push 54 0), (54, zm_istore 55 3), (55, zm_iload 56 3), (56, zm_iload 57 2), (57, zm_icge 60 84), (60, zm_aload 61 0), (61, zm_getR 64 0 12)]
theorem zmc_189_1 (l : Launch) : zAll l "ChessWire" prog_1_method_32_code 4 false (some .int) zcl_189_1 :=
  zA_c (zOk_fl zn_aload (zs_aload_n (q := 0) rfl (by decide +kernel))) <|
  zA_c (zOk_fl zn_getR (zs_getR (k := 12) rfl (by decide) (by decide +kernel) rfl (by decide +kernel) zw_315)) <|
  zA_c (zOk_fl zn_iload (zs_iload_n (q := 1) rfl (by decide +kernel))) <|
  zA_c (zOk_fl zn_aald (zs_aald (t := 7) (by decide) (by decide) rfl rfl (by decide +kernel))) <|
  zA_c (zk_V zq_113 zw_762 rfl (by decide +kernel)) <|
  zA_c (zOk_fl zn_aload (zs_aload_n (q := 0) rfl (by decide +kernel))) <|
  zA_c (zOk_fl zn_getR (zs_getR (k := 5) rfl (by decide) (by decide +kernel) rfl (by decide +kernel) zw_308)) <|
  zA_c (zk_V zq_90 zw_708 rfl (by decide +kernel)) <|
  zA_c (zk_S zq_35 zw_1107 (by decide +kernel)) <|
  zA_c (zOk_fl zn_istore (zs_istore_n (q := 2) rfl (by decide +kernel))) <|
  zA_c (zOk_fl zn_push (zs_iconst (n := 0) (by decide +kernel) rfl)) <|
  zA_c (zOk_fl zn_istore (zs_istore_n (q := 3) rfl (by decide +kernel))) <|
  zA_c (zOk_fl zn_iload (zs_iload_n (q := 3) rfl (by decide +kernel))) <|
  zA_c (zOk_fl zn_iload (zs_iload_n (q := 2) rfl (by decide +kernel))) <|
  zA_c (zOk_fl zn_icge (zs_icge (off := 27) (by decide +kernel) (by decide))) <|
  zA_c (zOk_fl zn_aload (zs_aload_n (q := 0) rfl (by decide +kernel))) <|
  zA_c (zOk_fl zn_getR (zs_getR (k := 12) rfl (by decide) (by decide +kernel) rfl (by decide +kernel) zw_315)) <|
  zA_n
def zcl_189_2 : List (Nat × zmI) := [(64, zm_iload 65 1), (65, zm_aald 66 107), (66, zm_iload 67 3), (67, zm_aload 68 0), (68, zm_getR 71 0 5), (71, zm_iload 72 3), (72, zm_call 75 97 2 true 5), (75, zm_call 78 185 3 false 11), (78, zm_iinc 81 3 1), (81, zm_goto 55), (84, zm_iload 85 2), (85, zm_iret)]
theorem zmc_189_2 (l : Launch) : zAll l "ChessWire" prog_1_method_32_code 4 false (some .int) zcl_189_2 :=
  zA_c (zOk_fl zn_iload (zs_iload_n (q := 1) rfl (by decide +kernel))) <|
  zA_c (zOk_fl zn_aald (zs_aald (t := 7) (by decide) (by decide) rfl rfl (by decide +kernel))) <|
  zA_c (zOk_fl zn_iload (zs_iload_n (q := 3) rfl (by decide +kernel))) <|
  zA_c (zOk_fl zn_aload (zs_aload_n (q := 0) rfl (by decide +kernel))) <|
  zA_c (zOk_fl zn_getR (zs_getR (k := 5) rfl (by decide) (by decide +kernel) rfl (by decide +kernel) zw_308)) <|
  zA_c (zOk_fl zn_iload (zs_iload_n (q := 3) rfl (by decide +kernel))) <|
  zA_c (zk_V zq_97 zw_709 rfl (by decide +kernel)) <|
  zA_c (zk_V zq_185 zw_1084 rfl (by decide +kernel)) <|
  zA_c (zOk_fl zn_iinc (zs_iinc rfl (by decide +kernel))) <|
  zA_c (zOk_fl zn_goto (zs_goto (off := (-26)) (by decide +kernel) (by decide))) <|
  zA_c (zOk_fl zn_iload (zs_iload_n (q := 2) rfl (by decide +kernel))) <|
  zA_c (zs_iret (by decide +kernel) rfl) <|
  zA_n
def zc_189 : Nat → zmI := zgetC [zcl_189_0, zcl_189_1, zcl_189_2]
theorem zmf_189 (l : Launch) : zMf l zc_189 189 := ⟨by decide +kernel, false, (fun h => by cases h), fun pc => zgetC_ok (zA2_c (zmc_189_0 l) (zA2_c (zmc_189_1 l) (zA2_c (zmc_189_2 l) (zA2_n)))) pc⟩
def zcl_190_0 : List (Nat × zmI) := [(0, zm_iload 1 1), (1, zm_tsw 156 0 8 [52, 70, 79, 89, 99, 109, 114, 135, 151])]
theorem zmc_190_0 (l : Launch) : zAll l "ChessWire" prog_1_method_33_code 2 false (some .int) zcl_190_0 :=
  zA_c (zOk_fl zn_iload (zs_iload_n (q := 1) rfl (by decide +kernel))) <|
  zA_c (zOk_fl zn_tsw (zs_tsw (d0 := 155) (offs := #[51, 69, 78, 88, 98, 108, 113, 134, 150]) (len := 51) (by decide +kernel) (by decide) (by decide) (by decide))) <|
  zA_n
def zcl_190_1 : List (Nat × zmI) := [(52, zm_aload 53 0), (53, zm_getR 56 0 1), (56, zm_push 57 1), (57, zm_call 60 191 2 true 2), (60, zm_aload 61 0), (61, zm_getR 64 0 1)]
theorem zmc_190_1 (l : Launch) : zAll l "ChessWire" prog_1_method_33_code 2 false (some .int) zcl_190_1 :=
  zA_c (zOk_fl zn_aload (zs_aload_n (q := 0) rfl (by decide +kernel))) <|
  zA_c (zOk_fl zn_getR (zs_getR (k := 1) rfl (by decide) (by decide +kernel) rfl (by decide +kernel) zw_304)) <|
  zA_c (zOk_fl zn_push (zs_iconst (n := 1) (by decide +kernel) rfl)) <|
  zA_c (zk_V zq_191 zw_1112 rfl (by decide +kernel)) <|
  zA_c (zOk_fl zn_aload (zs_aload_n (q := 0) rfl (by decide +kernel))) <|
  zA_c (zOk_fl zn_getR (zs_getR (k := 1) rfl (by decide) (by decide +kernel) rfl (by decide +kernel) zw_304)) <|
  zA_n
def zcl_190_2 : List (Nat × zmI) := [(64, zm_push 65 (-1)), (65, zm_call 68 191 2 true 2), (68, zm_bin 69 (fun x y => w32 (x + y))), (69, zm_iret), (70, zm_aload 71 0), (71, zm_getR 74 0 1), (74, zm_push 75 1), (75, zm_call 78 191 2 true 2), (78, zm_iret), (79, zm_aload 80 0), (80, zm_getR 83 0 0), (83, zm_push 84 0), (84, zm_aald 85 103), (85, zm_call 88 22 1 true 1), (88, zm_iret), (89, zm_aload 90 0), (90, zm_getR 93 0 0), (93, zm_push 94 1), (94, zm_aald 95 103), (95, zm_call 98 22 1 true 1)]
theorem zmc_190_2 (l : Launch) : zAll l "ChessWire" prog_1_method_33_code 2 false (some .int) zcl_190_2 :=
  zA_c (zOk_fl zn_push (zs_iconst (n := (-1)) (by decide +kernel) rfl)) <|
  zA_c (zk_V zq_191 zw_1112 rfl (by decide +kernel)) <|
  zA_c (zOk_fl zn_bin (zs_iadd (by decide +kernel))) <|
  zA_c (zs_iret (by decide +kernel) rfl) <|
  zA_c (zOk_fl zn_aload (zs_aload_n (q := 0) rfl (by decide +kernel))) <|
  zA_c (zOk_fl zn_getR (zs_getR (k := 1) rfl (by decide) (by decide +kernel) rfl (by decide +kernel) zw_304)) <|
  zA_c (zOk_fl zn_push (zs_iconst (n := 1) (by decide +kernel) rfl)) <|
  zA_c (zk_V zq_191 zw_1112 rfl (by decide +kernel)) <|
  zA_c (zs_iret (by decide +kernel) rfl) <|
  zA_c (zOk_fl zn_aload (zs_aload_n (q := 0) rfl (by decide +kernel))) <|
  zA_c (zOk_fl zn_getR (zs_getR (k := 0) rfl (by decide) (by decide +kernel) rfl (by decide +kernel) zw_303)) <|
  zA_c (zOk_fl zn_push (zs_iconst (n := 0) (by decide +kernel) rfl)) <|
  zA_c (zOk_fl zn_aald (zs_aald (t := 3) (by decide) (by decide) rfl rfl (by decide +kernel))) <|
  zA_c (zk_V zq_22 zw_511 rfl (by decide +kernel)) <|
  zA_c (zs_iret (by decide +kernel) rfl) <|
  zA_c (zOk_fl zn_aload (zs_aload_n (q := 0) rfl (by decide +kernel))) <|
  zA_c (zOk_fl zn_getR (zs_getR (k := 0) rfl (by decide) (by decide +kernel) rfl (by decide +kernel) zw_303)) <|
  zA_c (zOk_fl zn_push (zs_iconst (n := 1) (by decide +kernel) rfl)) <|
  zA_c (zOk_fl zn_aald (zs_aald (t := 3) (by decide) (by decide) rfl rfl (by decide +kernel))) <|
  zA_c (zk_V zq_22 zw_511 rfl (by decide +kernel)) <|
  zA_n
def zcl_190_3 : List (Nat × zmI) := [(98, zm_iret), (99, zm_aload 100 0), (100, zm_getR 103 0 0), (103, zm_push 104 2), (104, zm_aald 105 103), (105, zm_call 108 22 1 true 1), (108, zm_iret), (109, zm_aload 110 0), (110, zm_getI 113 0 14), (113, zm_iret), (114, zm_aload 115 0), (115, zm_getR 118 0 10), (118, zm_aload 119 0), (119, zm_getR 122 0 0), (122, zm_push 123 2), (123, zm_aald 124 103), (124, zm_call 127 155 2 false 9), (127, zm_aload 128 0)]
theorem zmc_190_3 (l : Launch) : zAll l "ChessWire" prog_1_method_33_code 2 false (some .int) zcl_190_3 :=
  zA_c (zs_iret (by decide +kernel) rfl) <|
  zA_c (zOk_fl zn_aload (zs_aload_n (q := 0) rfl (by decide +kernel))) <|
  zA_c (zOk_fl zn_getR (zs_getR (k := 0) rfl (by decide) (by decide +kernel) rfl (by decide +kernel) zw_303)) <|
  zA_c (zOk_fl zn_push (zs_iconst (n := 2) (by decide +kernel) rfl)) <|
  zA_c (zOk_fl zn_aald (zs_aald (t := 3) (by decide) (by decide) rfl rfl (by decide +kernel))) <|
  zA_c (zk_V zq_22 zw_511 rfl (by decide +kernel)) <|
  zA_c (zs_iret (by decide +kernel) rfl) <|
  zA_c (zOk_fl zn_aload (zs_aload_n (q := 0) rfl (by decide +kernel))) <|
  zA_c (zOk_fl zn_getI (zs_getI (k := 14) rfl (by decide) (by decide +kernel) rfl (by decide +kernel) zw_317)) <|
  zA_c (zs_iret (by decide +kernel) rfl) <|
  zA_c (zOk_fl zn_aload (zs_aload_n (q := 0) rfl (by decide +kernel))) <|
  zA_c (zOk_fl zn_getR (zs_getR (k := 10) rfl (by decide) (by decide +kernel) rfl (by decide +kernel) zw_313)) <|
  zA_c (zOk_fl zn_aload (zs_aload_n (q := 0) rfl (by decide +kernel))) <|
  zA_c (zOk_fl zn_getR (zs_getR (k := 0) rfl (by decide) (by decide +kernel) rfl (by decide +kernel) zw_303)) <|
  zA_c (zOk_fl zn_push (zs_iconst (n := 2) (by decide +kernel) rfl)) <|
  zA_c (zOk_fl zn_aald (zs_aald (t := 3) (by decide) (by decide) rfl rfl (by decide +kernel))) <|
  zA_c (zk_V zq_155 zw_998 rfl (by decide +kernel)) <|
  zA_c (zOk_fl zn_aload (zs_aload_n (q := 0) rfl (by decide +kernel))) <|
  zA_n
def zcl_190_4 : List (Nat × zmI) := [(128, zm_getR 131 0 10), (131, zm_call 134 166 1 true 9), (134, zm_iret), (135, zm_aload 136 0), (136, zm_call 139 74 1 false 0), (139, zm_aload 140 0), (140, zm_getR 143 0 5), (143, zm_aload 144 0), (144, zm_getR 147 0 7), (147, zm_call 150 137 2 true 5), (150, zm_iret), (151, zm_aload 152 0), (152, zm_getI 155 0 15), (155, zm_iret), (156, zm_push 158 (-2)), (158, zm_iret)]
theorem zmc_190_4 (l : Launch) : zAll l "ChessWire" prog_1_method_33_code 2 false (some .int) zcl_190_4 :=
  zA_c (zOk_fl zn_getR (zs_getR (k := 10) rfl (by decide) (by decide +kernel) rfl (by decide +kernel) zw_313)) <|
  zA_c (zk_V zq_166 zw_1116 rfl (by decide +kernel)) <|
  zA_c (zs_iret (by decide +kernel) rfl) <|
  zA_c (zOk_fl zn_aload (zs_aload_n (q := 0) rfl (by decide +kernel))) <|
  zA_c (zk_V zq_74 zw_593 rfl (by decide +kernel)) <|
  zA_c (zOk_fl zn_aload (zs_aload_n (q := 0) rfl (by decide +kernel))) <|
  zA_c (zOk_fl zn_getR (zs_getR (k := 5) rfl (by decide) (by decide +kernel) rfl (by decide +kernel) zw_308)) <|
  zA_c (zOk_fl zn_aload (zs_aload_n (q := 0) rfl (by decide +kernel))) <|
  zA_c (zOk_fl zn_getR (zs_getR (k := 7) rfl (by decide) (by decide +kernel) rfl (by decide +kernel) zw_310)) <|
  zA_c (zk_V zq_137 zw_1117 rfl (by decide +kernel)) <|
  zA_c (zs_iret (by decide +kernel) rfl) <|
  zA_c (zOk_fl zn_aload (zs_aload_n (q := 0) rfl (by decide +kernel))) <|
  zA_c (zOk_fl zn_getI (zs_getI (k := 15) rfl (by decide) (by decide +kernel) rfl (by decide +kernel) zw_318)) <|
  zA_c (zs_iret (by decide +kernel) rfl) <|
  zA_c (zOk_fl zn_push (zs_bipush (n := (-2)) (by decide +kernel) rfl)) <|
  zA_c (zs_iret (by decide +kernel) rfl) <|
  zA_n
def zc_190 : Nat → zmI := zgetC [zcl_190_0, zcl_190_1, zcl_190_2, zcl_190_3, zcl_190_4]
theorem zmf_190 (l : Launch) : zMf l zc_190 190 := ⟨by decide +kernel, false, (fun h => by cases h), fun pc => zgetC_ok (zA2_c (zmc_190_0 l) (zA2_c (zmc_190_1 l) (zA2_c (zmc_190_2 l) (zA2_c (zmc_190_3 l) (zA2_c (zmc_190_4 l) (zA2_n)))))) pc⟩
def zcl_191_0 : List (Nat × zmI) := [(0, zm_push 1 0), (1, zm_istore 2 2), (2, zm_push 3 0), (3, zm_istore 4 3), (4, zm_iload 5 3), (5, zm_push 7 64), (7, zm_icge 10 30), (10, zm_aload 11 0), (11, zm_getR 14 2 0), (14, zm_iload 15 3), (15, zm_ald 16 100), (16, zm_iload 17 1), (17, zm_bin 18 (fun x y => w32 (x * y))), (18, zm_ifle 21 24), (21, zm_iinc 24 2 1), (24, zm_iinc 27 3 1), (27, zm_goto 4), (30, zm_iload 31 2), (31, zm_iret)]
theorem zmc_191_0 (l : Launch) : zAll l "ChessWire$Board" prog_2_method_11_code 4 false (some .int) zcl_191_0 :=
  zA_c (zOk_fl zn_push (zs_iconst (n := 0) (by decide +kernel) rfl)) <|
  zA_c (zOk_fl zn_istore (zs_istore_n (q := 2) rfl (by decide +kernel))) <|
  zA_c (zOk_fl zn_push (zs_iconst (n := 0) (by decide +kernel) rfl)) <|
  zA_c (zOk_fl zn_istore (zs_istore_n (q := 3) rfl (by decide +kernel))) <|
  zA_c (zOk_fl zn_iload (zs_iload_n (q := 3) rfl (by decide +kernel))) <|
  zA_c (zOk_fl zn_push (zs_bipush (n := 64) (by decide +kernel) rfl)) <|
  zA_c (zOk_fl zn_icge (zs_icge (off := 23) (by decide +kernel) (by decide))) <|
  zA_c (zOk_fl zn_aload (zs_aload_n (q := 0) rfl (by decide +kernel))) <|
  zA_c (zOk_fl zn_getR (zs_getR (k := 0) rfl (by decide) (by decide +kernel) rfl (by decide +kernel) zw_56)) <|
  zA_c (zOk_fl zn_iload (zs_iload_n (q := 3) rfl (by decide +kernel))) <|
  zA_c (zOk_fl zn_ald (zs_iald (by decide +kernel))) <|
  zA_c (zOk_fl zn_iload (zs_iload_n (q := 1) rfl (by decide +kernel))) <|
  zA_c (zOk_fl zn_bin (zs_imul (by decide +kernel))) <|
  zA_c (zOk_fl zn_ifle (zs_ifle (off := 6) (by decide +kernel) (by decide))) <|
  zA_c (zOk_fl zn_iinc (zs_iinc rfl (by decide +kernel))) <|
  zA_c (zOk_fl zn_iinc (zs_iinc rfl (by decide +kernel))) <|
  zA_c (zOk_fl zn_goto (zs_goto (off := (-23)) (by decide +kernel) (by decide))) <|
  zA_c (zOk_fl zn_iload (zs_iload_n (q := 2) rfl (by decide +kernel))) <|
  zA_c (zs_iret (by decide +kernel) rfl) <|
  zA_n
def zc_191 : Nat → zmI := zgetC [zcl_191_0]
theorem zmf_191 (l : Launch) : zMf l zc_191 191 := ⟨by decide +kernel, false, (fun h => by cases h), fun pc => zgetC_ok (zA2_c (zmc_191_0 l) (zA2_n)) pc⟩
def zcl_192_0 : List (Nat × zmI) := [(0, zm_pushl 3 17), (3, zm_lstore 4 1), (4, zm_push 5 0), (5, zm_istore 6 3), (6, zm_iload 7 3), (7, zm_push 9 7), (9, zm_icgt 12 31), (12, zm_pushl 15 31), (15, zm_lload 16 1), (16, zm_binl 17 (fun x y => w64 (x * y))), (17, zm_aload 18 0), (18, zm_iload 19 3), (19, zm_call 22 190 2 true 0), (22, zm_i2l 23), (23, zm_binl 24 (fun x y => w64 (x + y))), (24, zm_lstore 25 1), (25, zm_iinc 28 3 1), (28, zm_goto 6), (31, zm_push 32 0)]
theorem zmc_192_0 (l : Launch) : zAll l "ChessWire" prog_1_method_34_code 6 false (some .long) zcl_192_0 :=
  zA_c (zOk_fl zn_pushl (zs_ldc2 (by decide +kernel) zw_1122 rfl)) <|
  zA_c (zOk_fl zn_lstore (zs_lstore_n (q := 1) rfl (by decide +kernel))) <|
  zA_c (zOk_fl zn_push (zs_iconst (n := 0) (by decide +kernel) rfl)) <|
  zA_c (zOk_fl zn_istore (zs_istore_n (q := 3) rfl (by decide +kernel))) <|
  zA_c (zOk_fl zn_iload (zs_iload_n (q := 3) rfl (by decide +kernel))) <|
  zA_c (zOk_fl zn_push (zs_bipush (n := 7) (by decide +kernel) rfl)) <|
  zA_c (zOk_fl zn_icgt (zs_icgt (off := 22) (by decide +kernel) (by decide))) <|
  zA_c (zOk_fl zn_pushl (zs_ldc2 (by decide +kernel) zw_1123 rfl)) <|
  zA_c (zOk_fl zn_lload (zs_lload_n (q := 1) rfl (by decide +kernel))) <|
  zA_c (zOk_fl zn_binl (zs_lmul (by decide +kernel))) <|
  zA_c (zOk_fl zn_aload (zs_aload_n (q := 0) rfl (by decide +kernel))) <|
  zA_c (zOk_fl zn_iload (zs_iload_n (q := 3) rfl (by decide +kernel))) <|
  zA_c (zk_V zq_190 zw_1124 rfl (by decide +kernel)) <|
  zA_c (zOk_fl zn_i2l (zs_i2l (by decide +kernel))) <|
  zA_c (zOk_fl zn_binl (zs_ladd (by decide +kernel))) <|
  zA_c (zOk_fl zn_lstore (zs_lstore_n (q := 1) rfl (by decide +kernel))) <|
  zA_c (zOk_fl zn_iinc (zs_iinc rfl (by decide +kernel))) <|
  zA_c (zOk_fl zn_goto (zs_goto (off := (-22)) (by decide +kernel) (by decide))) <|
  zA_c (zOk_fl zn_push (zs_iconst (n := 0) (by decide +kernel) rfl)) <|
  zA_n
def zcl_192_1 : List (Nat × zmI) := [(32, zm_istore 33 3), (33, zm_iload 34 3), (34, zm_aload 35 0), (35, zm_getR 38 0 0), (38, zm_alen 39), (39, zm_icge 42 61), (42, zm_pushl 45 31), (45, zm_lload 46 1), (46, zm_binl 47 (fun x y => w64 (x * y))), (47, zm_aload 48 0), (48, zm_iload 49 3), (49, zm_call 52 55 2 true 0), (52, zm_i2l 53), (53, zm_binl 54 (fun x y => w64 (x + y))), (54, zm_lstore 55 1), (55, zm_iinc 58 3 1), (58, zm_goto 33), (61, zm_push 62 0), (62, zm_istore 63 3), (63, zm_iload 64 3)]
theorem zmc_192_1 (l : Launch) : zAll l "ChessWire" prog_1_method_34_code 6 false (some .long) zcl_192_1 :=
  zA_c (zOk_fl zn_istore (zs_istore_n (q := 3) rfl (by decide +kernel))) <|
  zA_c (zOk_fl zn_iload (zs_iload_n (q := 3) rfl (by decide +kernel))) <|
  zA_c (zOk_fl zn_aload (zs_aload_n (q := 0) rfl (by decide +kernel))) <|
  zA_c (zOk_fl zn_getR (zs_getR (k := 0) rfl (by decide) (by decide +kernel) rfl (by decide +kernel) zw_303)) <|
  zA_c (zOk_fl zn_alen (zs_alen (by decide +kernel))) <|
  zA_c (zOk_fl zn_icge (zs_icge (off := 22) (by decide +kernel) (by decide))) <|
  zA_c (zOk_fl zn_pushl (zs_ldc2 (by decide +kernel) zw_1123 rfl)) <|
  zA_c (zOk_fl zn_lload (zs_lload_n (q := 1) rfl (by decide +kernel))) <|
  zA_c (zOk_fl zn_binl (zs_lmul (by decide +kernel))) <|
  zA_c (zOk_fl zn_aload (zs_aload_n (q := 0) rfl (by decide +kernel))) <|
  zA_c (zOk_fl zn_iload (zs_iload_n (q := 3) rfl (by decide +kernel))) <|
  zA_c (zk_V zq_55 zw_1125 rfl (by decide +kernel)) <|
  zA_c (zOk_fl zn_i2l (zs_i2l (by decide +kernel))) <|
  zA_c (zOk_fl zn_binl (zs_ladd (by decide +kernel))) <|
  zA_c (zOk_fl zn_lstore (zs_lstore_n (q := 1) rfl (by decide +kernel))) <|
  zA_c (zOk_fl zn_iinc (zs_iinc rfl (by decide +kernel))) <|
  zA_c (zOk_fl zn_goto (zs_goto (off := (-25)) (by decide +kernel) (by decide))) <|
  zA_c (zOk_fl zn_push (zs_iconst (n := 0) (by decide +kernel) rfl)) <|
  zA_c (zOk_fl zn_istore (zs_istore_n (q := 3) rfl (by decide +kernel))) <|
  zA_c (zOk_fl zn_iload (zs_iload_n (q := 3) rfl (by decide +kernel))) <|
  zA_n
def zcl_192_2 : List (Nat × zmI) := [(64, zm_push 66 64), (66, zm_icge 69 88), (69, zm_pushl 72 31), (72, zm_lload 73 1), (73, zm_binl 74 (fun x y => w64 (x * y))), (74, zm_aload 75 0), (75, zm_iload 76 3), (76, zm_call 79 62 2 true 0), (79, zm_i2l 80), (80, zm_binl 81 (fun x y => w64 (x + y))), (81, zm_lstore 82 1), (82, zm_iinc 85 3 1), (85, zm_goto 63), (88, zm_pushl 91 31), (91, zm_lload 92 1), (92, zm_binl 93 (fun x y => w64 (x * y))), (93, zm_aload 94 0), (94, zm_call 97 71 1 true 0)]
theorem zmc_192_2 (l : Launch) : zAll l "ChessWire" prog_1_method_34_code 6 false (some .long) zcl_192_2 :=
  zA_c (zOk_fl zn_push (zs_bipush (n := 64) (by decide +kernel) rfl)) <|
  zA_c (zOk_fl zn_icge (zs_icge (off := 22) (by decide +kernel) (by decide))) <|
  zA_c (zOk_fl zn_pushl (zs_ldc2 (by decide +kernel) zw_1123 rfl)) <|
  zA_c (zOk_fl zn_lload (zs_lload_n (q := 1) rfl (by decide +kernel))) <|
  zA_c (zOk_fl zn_binl (zs_lmul (by decide +kernel))) <|
  zA_c (zOk_fl zn_aload (zs_aload_n (q := 0) rfl (by decide +kernel))) <|
  zA_c (zOk_fl zn_iload (zs_iload_n (q := 3) rfl (by decide +kernel))) <|
  zA_c (zk_V zq_62 zw_1126 rfl (by decide +kernel)) <|
  zA_c (zOk_fl zn_i2l (zs_i2l (by decide +kernel))) <|
  zA_c (zOk_fl zn_binl (zs_ladd (by decide +kernel))) <|
  zA_c (zOk_fl zn_lstore (zs_lstore_n (q := 1) rfl (by decide +kernel))) <|
  zA_c (zOk_fl zn_iinc (zs_iinc rfl (by decide +kernel))) <|
  zA_c (zOk_fl zn_goto (zs_goto (off := (-22)) (by decide +kernel) (by decide))) <|
  zA_c (zOk_fl zn_pushl (zs_ldc2 (by decide +kernel) zw_1123 rfl)) <|
  zA_c (zOk_fl zn_lload (zs_lload_n (q := 1) rfl (by decide +kernel))) <|
  zA_c (zOk_fl zn_binl (zs_lmul (by decide +kernel))) <|
  zA_c (zOk_fl zn_aload (zs_aload_n (q := 0) rfl (by decide +kernel))) <|
  zA_c (zk_V zq_71 zw_1127 rfl (by decide +kernel)) <|
  zA_n
def zcl_192_3 : List (Nat × zmI) := [(97, zm_i2l 98), (98, zm_binl 99 (fun x y => w64 (x + y))), (99, zm_lstore 100 1), (100, zm_pushl 103 31), (103, zm_lload 104 1), (104, zm_binl 105 (fun x y => w64 (x * y))), (105, zm_aload 106 0), (106, zm_call 109 104 1 true 0), (109, zm_i2l 110), (110, zm_binl 111 (fun x y => w64 (x + y))), (111, zm_lstore 112 1), (112, zm_pushl 115 31), (115, zm_lload 116 1), (116, zm_binl 117 (fun x y => w64 (x * y))), (117, zm_aload 118 0), (118, zm_push 119 (-1)), (119, zm_call 122 73 2 true 0), (122, zm_i2l 123), (123, zm_binl 124 (fun x y => w64 (x + y))), (124, zm_lstore 125 1), (125, zm_pushl 128 31)]
theorem zmc_192_3 (l : Launch) : zAll l "ChessWire" prog_1_method_34_code 6 false (some .long) zcl_192_3 :=
  zA_c (zOk_fl zn_i2l (zs_i2l (by decide +kernel))) <|
  zA_c (zOk_fl zn_binl (zs_ladd (by decide +kernel))) <|
  zA_c (zOk_fl zn_lstore (zs_lstore_n (q := 1) rfl (by decide +kernel))) <|
  zA_c (zOk_fl zn_pushl (zs_ldc2 (by decide +kernel) zw_1123 rfl)) <|
  zA_c (zOk_fl zn_lload (zs_lload_n (q := 1) rfl (by decide +kernel))) <|
  zA_c (zOk_fl zn_binl (zs_lmul (by decide +kernel))) <|
  zA_c (zOk_fl zn_aload (zs_aload_n (q := 0) rfl (by decide +kernel))) <|
  zA_c (zk_V zq_104 zw_1128 rfl (by decide +kernel)) <|
  zA_c (zOk_fl zn_i2l (zs_i2l (by decide +kernel))) <|
  zA_c (zOk_fl zn_binl (zs_ladd (by decide +kernel))) <|
  zA_c (zOk_fl zn_lstore (zs_lstore_n (q := 1) rfl (by decide +kernel))) <|
  zA_c (zOk_fl zn_pushl (zs_ldc2 (by decide +kernel) zw_1123 rfl)) <|
  zA_c (zOk_fl zn_lload (zs_lload_n (q := 1) rfl (by decide +kernel))) <|
  zA_c (zOk_fl zn_binl (zs_lmul (by decide +kernel))) <|
  zA_c (zOk_fl zn_aload (zs_aload_n (q := 0) rfl (by decide +kernel))) <|
  zA_c (zOk_fl zn_push (zs_iconst (n := (-1)) (by decide +kernel) rfl)) <|
  zA_c (zk_V zq_73 zw_1129 rfl (by decide +kernel)) <|
  zA_c (zOk_fl zn_i2l (zs_i2l (by decide +kernel))) <|
  zA_c (zOk_fl zn_binl (zs_ladd (by decide +kernel))) <|
  zA_c (zOk_fl zn_lstore (zs_lstore_n (q := 1) rfl (by decide +kernel))) <|
  zA_c (zOk_fl zn_pushl (zs_ldc2 (by decide +kernel) zw_1123 rfl)) <|
  zA_n
def zcl_192_4 : List (Nat × zmI) := [(128, zm_lload 129 1), (129, zm_binl 130 (fun x y => w64 (x * y))), (130, zm_aload 131 0), (131, zm_call 134 121 1 true 0), (134, zm_i2l 135), (135, zm_binl 136 (fun x y => w64 (x + y))), (136, zm_lstore 137 1), (137, zm_pushl 140 31), (140, zm_lload 141 1), (141, zm_binl 142 (fun x y => w64 (x * y))), (142, zm_aload 143 0), (143, zm_push 144 (-1)), (144, zm_call 147 122 2 true 0), (147, zm_i2l 148), (148, zm_binl 149 (fun x y => w64 (x + y))), (149, zm_lstore 150 1), (150, zm_pushl 153 31), (153, zm_lload 154 1), (154, zm_binl 155 (fun x y => w64 (x * y))), (155, zm_aload 156 0), (156, zm_push 157 0), (157, zm_call 160 122 2 true 0)]
theorem zmc_192_4 (l : Launch) : zAll l "ChessWire" prog_1_method_34_code 6 false (some .long) zcl_192_4 :=
  zA_c (zOk_fl zn_lload (zs_lload_n (q := 1) rfl (by decide +kernel))) <|
  zA_c (zOk_fl zn_binl (zs_lmul (by decide +kernel))) <|
  zA_c (zOk_fl zn_aload (zs_aload_n (q := 0) rfl (by decide +kernel))) <|
  zA_c (zk_V zq_121 zw_1130 rfl (by decide +kernel)) <|
  zA_c (zOk_fl zn_i2l (zs_i2l (by decide +kernel))) <|
  zA_c (zOk_fl zn_binl (zs_ladd (by decide +kernel))) <|
  zA_c (zOk_fl zn_lstore (zs_lstore_n (q := 1) rfl (by decide +kernel))) <|
  zA_c (zOk_fl zn_pushl (zs_ldc2 (by decide +kernel) zw_1123 rfl)) <|
  zA_c (zOk_fl zn_lload (zs_lload_n (q := 1) rfl (by decide +kernel))) <|
  zA_c (zOk_fl zn_binl (zs_lmul (by decide +kernel))) <|
  zA_c (zOk_fl zn_aload (zs_aload_n (q := 0) rfl (by decide +kernel))) <|
  zA_c (zOk_fl zn_push (zs_iconst (n := (-1)) (by decide +kernel) rfl)) <|
  zA_c (zk_V zq_122 zw_1131 rfl (by decide +kernel)) <|
  zA_c (zOk_fl zn_i2l (zs_i2l (by decide +kernel))) <|
  zA_c (zOk_fl zn_binl (zs_ladd (by decide +kernel))) <|
  zA_c (zOk_fl zn_lstore (zs_lstore_n (q := 1) rfl (by decide +kernel))) <|
  zA_c (zOk_fl zn_pushl (zs_ldc2 (by decide +kernel) zw_1123 rfl)) <|
  zA_c (zOk_fl zn_lload (zs_lload_n (q := 1) rfl (by decide +kernel))) <|
  zA_c (zOk_fl zn_binl (zs_lmul (by decide +kernel))) <|
  zA_c (zOk_fl zn_aload (zs_aload_n (q := 0) rfl (by decide +kernel))) <|
  zA_c (zOk_fl zn_push (zs_iconst (n := 0) (by decide +kernel) rfl)) <|
  zA_c (zk_V zq_122 zw_1131 rfl (by decide +kernel)) <|
  zA_n
def zcl_192_5 : List (Nat × zmI) := [(160, zm_i2l 161), (161, zm_binl 162 (fun x y => w64 (x + y))), (162, zm_lstore 163 1), (163, zm_pushl 166 31), (166, zm_lload 167 1), (167, zm_binl 168 (fun x y => w64 (x * y))), (168, zm_aload 169 0), (169, zm_push 170 (-1)), (170, zm_call 173 125 2 true 0), (173, zm_i2l 174), (174, zm_binl 175 (fun x y => w64 (x + y))), (175, zm_lstore 176 1), (176, zm_pushl 179 31), (179, zm_lload 180 1), (180, zm_binl 181 (fun x y => w64 (x * y))), (181, zm_aload 182 0), (182, zm_push 183 2), (183, zm_call 186 128 2 true 0), (186, zm_i2l 187), (187, zm_binl 188 (fun x y => w64 (x + y))), (188, zm_lstore 189 1), (189, zm_pushl 192 31)]
theorem zmc_192_5 (l : Launch) : zAll l "ChessWire" prog_1_method_34_code 6 false (some .long) zcl_192_5 :=
  zA_c (zOk_fl zn_i2l (zs_i2l (by decide +kernel))) <|
  zA_c (zOk_fl zn_binl (zs_ladd (by decide +kernel))) <|
  zA_c (zOk_fl zn_lstore (zs_lstore_n (q := 1) rfl (by decide +kernel))) <|
  zA_c (zOk_fl zn_pushl (zs_ldc2 (by decide +kernel) zw_1123 rfl)) <|
  zA_c (zOk_fl zn_lload (zs_lload_n (q := 1) rfl (by decide +kernel))) <|
  zA_c (zOk_fl zn_binl (zs_lmul (by decide +kernel))) <|
  zA_c (zOk_fl zn_aload (zs_aload_n (q := 0) rfl (by decide +kernel))) <|
  zA_c (zOk_fl zn_push (zs_iconst (n := (-1)) (by decide +kernel) rfl)) <|
  zA_c (zk_V zq_125 zw_1132 rfl (by decide +kernel)) <|
  zA_c (zOk_fl zn_i2l (zs_i2l (by decide +kernel))) <|
  zA_c (zOk_fl zn_binl (zs_ladd (by decide +kernel))) <|
  zA_c (zOk_fl zn_lstore (zs_lstore_n (q := 1) rfl (by decide +kernel))) <|
  zA_c (zOk_fl zn_pushl (zs_ldc2 (by decide +kernel) zw_1123 rfl)) <|
  zA_c (zOk_fl zn_lload (zs_lload_n (q := 1) rfl (by decide +kernel))) <|
  zA_c (zOk_fl zn_binl (zs_lmul (by decide +kernel))) <|
  zA_c (zOk_fl zn_aload (zs_aload_n (q := 0) rfl (by decide +kernel))) <|
  zA_c (zOk_fl zn_push (zs_iconst (n := 2) (by decide +kernel) rfl)) <|
  zA_c (zk_V zq_128 zw_1133 rfl (by decide +kernel)) <|
  zA_c (zOk_fl zn_i2l (zs_i2l (by decide +kernel))) <|
  zA_c (zOk_fl zn_binl (zs_ladd (by decide +kernel))) <|
  zA_c (zOk_fl zn_lstore (zs_lstore_n (q := 1) rfl (by decide +kernel))) <|
  zA_c (zOk_fl zn_pushl (zs_ldc2 (by decide +kernel) zw_1123 rfl)) <|
  zA_n
def zcl_192_6 : List (Nat × zmI) := [(192, zm_lload 193 1), (193, zm_binl 194 (fun x y => w64 (x * y))), (194, zm_aload 195 0), (195, zm_push 197 26), (197, zm_call 200 128 2 true 0), (200, zm_i2l 201), (201, zm_binl 202 (fun x y => w64 (x + y))), (202, zm_lstore 203 1), (203, zm_aload 204 0), (204, zm_push 205 0), (205, zm_call 208 73 2 true 0), (208, zm_istore 209 3), (209, zm_iload 210 3), (210, zm_push 211 (-1)), (211, zm_iceq 214 281), (214, zm_aload 215 0), (215, zm_iload 216 3), (216, zm_push 217 (-1)), (217, zm_call 220 116 3 true 0), (220, zm_istore 222 4), (222, zm_pushl 225 31)]
theorem zmc_192_6 (l : Launch) : zAll l "ChessWire" prog_1_method_34_code 6 false (some .long) zcl_192_6 :=
  zA_c (zOk_fl zn_lload (zs_lload_n (q := 1) rfl (by decide +kernel))) <|
  zA_c (zOk_fl zn_binl (zs_lmul (by decide +kernel))) <|
  zA_c (zOk_fl zn_aload (zs_aload_n (q := 0) rfl (by decide +kernel))) <|
  zA_c (zOk_fl zn_push (zs_bipush (n := 26) (by decide +kernel) rfl)) <|
  zA_c (zk_V zq_128 zw_1133 rfl (by decide +kernel)) <|
  zA_c (zOk_fl zn_i2l (zs_i2l (by decide +kernel))) <|
  zA_c (zOk_fl zn_binl (zs_ladd (by decide +kernel))) <|
  zA_c (zOk_fl zn_lstore (zs_lstore_n (q := 1) rfl (by decide +kernel))) <|
  zA_c (zOk_fl zn_aload (zs_aload_n (q := 0) rfl (by decide +kernel))) <|
  zA_c (zOk_fl zn_push (zs_iconst (n := 0) (by decide +kernel) rfl)) <|
  zA_c (zk_V zq_73 zw_1129 rfl (by decide +kernel)) <|
  zA_c (zOk_fl zn_istore (zs_istore_n (q := 3) rfl (by decide +kernel))) <|
  zA_c (zOk_fl zn_iload (zs_iload_n (q := 3) rfl (by decide +kernel))) <|
  zA_c (zOk_fl zn_push (zs_iconst (n := (-1)) (by decide +kernel) rfl)) <|
  zA_c (zOk_fl zn_iceq (zs_iceq (off := 70) (by decide +kernel) (by decide))) <|
  zA_c (zOk_fl zn_aload (zs_aload_n (q := 0) rfl (by decide +kernel))) <|
  zA_c (zOk_fl zn_iload (zs_iload_n (q := 3) rfl (by decide +kernel))) <|
  zA_c (zOk_fl zn_push (zs_iconst (n := (-1)) (by decide +kernel) rfl)) <|
  zA_c (zk_V zq_116 zw_1134 rfl (by decide +kernel)) <|
  zA_c (zOk_fl zn_istore (zs_istore (by decide +kernel))) <|
  zA_c (zOk_fl zn_pushl (zs_ldc2 (by decide +kernel) zw_1123 rfl)) <|
  zA_n
def zcl_192_7 : List (Nat × zmI) := [(225, zm_lload 226 1), (226, zm_binl 227 (fun x y => w64 (x * y))), (227, zm_iload 229 4), (229, zm_i2l 230), (230, zm_binl 231 (fun x y => w64 (x + y))), (231, zm_lstore 232 1), (232, zm_push 233 0), (233, zm_istore 235 5), (235, zm_iload 237 5), (237, zm_iload 239 4), (239, zm_icge 242 263), (242, zm_pushl 245 31), (245, zm_lload 246 1), (246, zm_binl 247 (fun x y => w64 (x * y))), (247, zm_aload 248 0), (248, zm_iload 249 3), (249, zm_iload 251 5), (251, zm_call 254 116 3 true 0), (254, zm_i2l 255), (255, zm_binl 256 (fun x y => w64 (x + y)))]
theorem zmc_192_7 (l : Launch) : zAll l "ChessWire" prog_1_method_34_code 6 false (some .long) zcl_192_7 :=
  zA_c (zOk_fl zn_lload (zs_lload_n (q := 1) rfl (by decide +kernel))) <|
  zA_c (zOk_fl zn_binl (zs_lmul (by decide +kernel))) <|
  zA_c (zOk_fl zn_iload (zs_iload (by decide +kernel))) <|
  zA_c (zOk_fl zn_i2l (zs_i2l (by decide +kernel))) <|
  zA_c (zOk_fl zn_binl (zs_ladd (by decide +kernel))) <|
  zA_c (zOk_fl zn_lstore (zs_lstore_n (q := 1) rfl (by decide +kernel))) <|
  zA_c (zOk_fl zn_push (zs_iconst (n := 0) (by decide +kernel) rfl)) <|
  zA_c (zOk_fl zn_istore (zs_istore (by decide +kernel))) <|
  zA_c (zOk_fl zn_iload (zs_iload (by decide +kernel))) <|
  zA_c (zOk_fl zn_iload (zs_iload (by decide +kernel))) <|
  zA_c (zOk_fl zn_icge (zs_icge (off := 24) (by decide +kernel) (by decide))) <|
  zA_c (zOk_fl zn_pushl (zs_ldc2 (by decide +kernel) zw_1123 rfl)) <|
  zA_c (zOk_fl zn_lload (zs_lload_n (q := 1) rfl (by decide +kernel))) <|
  zA_c (zOk_fl zn_binl (zs_lmul (by decide +kernel))) <|
  zA_c (zOk_fl zn_aload (zs_aload_n (q := 0) rfl (by decide +kernel))) <|
  zA_c (zOk_fl zn_iload (zs_iload_n (q := 3) rfl (by decide +kernel))) <|
  zA_c (zOk_fl zn_iload (zs_iload (by decide +kernel))) <|
  zA_c (zk_V zq_116 zw_1134 rfl (by decide +kernel)) <|
  zA_c (zOk_fl zn_i2l (zs_i2l (by decide +kernel))) <|
  zA_c (zOk_fl zn_binl (zs_ladd (by decide +kernel))) <|
  zA_n
def zcl_192_8 : List (Nat × zmI) := [(256, zm_lstore 257 1), (257, zm_iinc 260 5 1), (260, zm_goto 235), (263, zm_pushl 266 31), (266, zm_lload 267 1), (267, zm_binl 268 (fun x y => w64 (x * y))), (268, zm_aload 269 0), (269, zm_iload 270 3), (270, zm_push 272 9), (272, zm_push 274 50), (274, zm_push 275 (-1)), (275, zm_call 278 149 5 true 0), (278, zm_i2l 279), (279, zm_binl 280 (fun x y => w64 (x + y))), (280, zm_lstore 281 1), (281, zm_push 282 0), (282, zm_istore 284 4), (284, zm_iload 286 4), (286, zm_push 287 2), (287, zm_icgt 290 310)]
theorem zmc_192_8 (l : Launch) : zAll l "ChessWire" prog_1_method_34_code 6 false (some .long) zcl_192_8 :=
  zA_c (zOk_fl zn_lstore (zs_lstore_n (q := 1) rfl (by decide +kernel))) <|
  zA_c (zOk_fl zn_iinc (zs_iinc rfl (by decide +kernel))) <|
  zA_c (zOk_fl zn_goto (zs_goto (off := (-25)) (by decide +kernel) (by decide))) <|
  zA_c (zOk_fl zn_pushl (zs_ldc2 (by decide +kernel) zw_1123 rfl)) <|
  zA_c (zOk_fl zn_lload (zs_lload_n (q := 1) rfl (by decide +kernel))) <|
  zA_c (zOk_fl zn_binl (zs_lmul (by decide +kernel))) <|
  zA_c (zOk_fl zn_aload (zs_aload_n (q := 0) rfl (by decide +kernel))) <|
  zA_c (zOk_fl zn_iload (zs_iload_n (q := 3) rfl (by decide +kernel))) <|
  zA_c (zOk_fl zn_push (zs_bipush (n := 9) (by decide +kernel) rfl)) <|
  zA_c (zOk_fl zn_push (zs_bipush (n := 50) (by decide +kernel) rfl)) <|
  zA_c (zOk_fl zn_push (zs_iconst (n := (-1)) (by decide +kernel) rfl)) <|
  zA_c (zk_V zq_149 zw_1135 rfl (by decide +kernel)) <|
  zA_c (zOk_fl zn_i2l (zs_i2l (by decide +kernel))) <|
  zA_c (zOk_fl zn_binl (zs_ladd (by decide +kernel))) <|
  zA_c (zOk_fl zn_lstore (zs_lstore_n (q := 1) rfl (by decide +kernel))) <|
  zA_c (zOk_fl zn_push (zs_iconst (n := 0) (by decide +kernel) rfl)) <|
  zA_c (zOk_fl zn_istore (zs_istore (by decide +kernel))) <|
  zA_c (zOk_fl zn_iload (zs_iload (by decide +kernel))) <|
  zA_c (zOk_fl zn_push (zs_iconst (n := 2) (by decide +kernel) rfl)) <|
  zA_c (zOk_fl zn_icgt (zs_icgt (off := 23) (by decide +kernel) (by decide))) <|
  zA_n
def zcl_192_9 : List (Nat × zmI) := [(290, zm_pushl 293 31), (293, zm_lload 294 1), (294, zm_binl 295 (fun x y => w64 (x * y))), (295, zm_aload 296 0), (296, zm_iload 298 4), (298, zm_call 301 153 2 true 0), (301, zm_i2l 302), (302, zm_binl 303 (fun x y => w64 (x + y))), (303, zm_lstore 304 1), (304, zm_iinc 307 4 1), (307, zm_goto 284), (310, zm_pushl 313 31), (313, zm_lload 314 1), (314, zm_binl 315 (fun x y => w64 (x * y))), (315, zm_aload 316 0), (316, zm_push 318 9), (318, zm_call 321 162 2 true 0)]
theorem zmc_192_9 (l : Launch) : zAll l "ChessWire" prog_1_method_34_code 6 false (some .long) zcl_192_9 :=
  zA_c (zOk_fl zn_pushl (zs_ldc2 (by decide +kernel) zw_1123 rfl)) <|
  zA_c (zOk_fl zn_lload (zs_lload_n (q := 1) rfl (by decide +kernel))) <|
  zA_c (zOk_fl zn_binl (zs_lmul (by decide +kernel))) <|
  zA_c (zOk_fl zn_aload (zs_aload_n (q := 0) rfl (by decide +kernel))) <|
  zA_c (zOk_fl zn_iload (zs_iload (by decide +kernel))) <|
  zA_c (zk_V zq_153 zw_1136 rfl (by decide +kernel)) <|
  zA_c (zOk_fl zn_i2l (zs_i2l (by decide +kernel))) <|
  zA_c (zOk_fl zn_binl (zs_ladd (by decide +kernel))) <|
  zA_c (zOk_fl zn_lstore (zs_lstore_n (q := 1) rfl (by decide +kernel))) <|
  zA_c (zOk_fl zn_iinc (zs_iinc rfl (by decide +kernel))) <|
  zA_c (zOk_fl zn_goto (zs_goto (off := (-23)) (by decide +kernel) (by decide))) <|
  zA_c (zOk_fl zn_pushl (zs_ldc2 (by decide +kernel) zw_1123 rfl)) <|
  zA_c (zOk_fl zn_lload (zs_lload_n (q := 1) rfl (by decide +kernel))) <|
  zA_c (zOk_fl zn_binl (zs_lmul (by decide +kernel))) <|
  zA_c (zOk_fl zn_aload (zs_aload_n (q := 0) rfl (by decide +kernel))) <|
  zA_c (zOk_fl zn_push (zs_bipush (n := 9) (by decide +kernel) rfl)) <|
  zA_c (zk_V zq_162 zw_1137 rfl (by decide +kernel)) <|
  zA_n
def zcl_192_10 : List (Nat × zmI) := [(321, zm_i2l 322), (322, zm_binl 323 (fun x y => w64 (x + y))), (323, zm_lret)]
theorem zmc_192_10 (l : Launch) : zAll l "ChessWire" prog_1_method_34_code 6 false (some .long) zcl_192_10 :=
  zA_c (zOk_fl zn_i2l (zs_i2l (by decide +kernel))) <|
  zA_c (zOk_fl zn_binl (zs_ladd (by decide +kernel))) <|
  zA_c (zs_lret (by decide +kernel) rfl) <|
  zA_n
def zc_192 : Nat → zmI := zgetC [zcl_192_0, zcl_192_1, zcl_192_2, zcl_192_3, zcl_192_4, zcl_192_5, zcl_192_6, zcl_192_7, zcl_192_8, zcl_192_9, zcl_192_10]
theorem zmf_192 (l : Launch) : zMf l zc_192 192 := ⟨by decide +kernel, false, (fun h => by cases h), fun pc => zgetC_ok (zA2_c (zmc_192_0 l) (zA2_c (zmc_192_1 l) (zA2_c (zmc_192_2 l) (zA2_c (zmc_192_3 l) (zA2_c (zmc_192_4 l) (zA2_c (zmc_192_5 l) (zA2_c (zmc_192_6 l) (zA2_c (zmc_192_7 l) (zA2_c (zmc_192_8 l) (zA2_c (zmc_192_9 l) (zA2_c (zmc_192_10 l) (zA2_n)))))))))))) pc⟩
