/-! code, and why it is sound -/
def zcl_82_0 : List (Nat × zmI) := [(0, zm_pushl 1 0), (1, zm_lstore 2 3), (2, zm_push 3 0), (3, zm_istore 5 5), (5, zm_iload 7 5), (7, zm_push 9 8), (9, zm_icge 12 98), (12, zm_iload 13 1), (13, zm_push 15 7), (15, zm_bin 16 z_and), (16, zm_pushr 19 (zXB + 0)), (19, zm_iload 21 5), (21, zm_ald 22 100), (22, zm_bin 23 (fun x y => w32 (x + y))), (23, zm_istore 25 6), (25, zm_iload 26 1), (26, zm_push 27 3), (27, zm_bin 28 z_shr), (28, zm_pushr 31 (zXB + 1)), (31, zm_iload 33 5)]
theorem zmc_82_0 (l : Launch) : zAll l "ChessWire$Board" prog_2_method_21_code 8 false (some .long) zcl_82_0 :=
  zA_c (zOk_fl zn_pushl (zs_lconst (n := 0) (by decide +kernel) rfl)) <|
  zA_c (zOk_fl zn_lstore (zs_lstore_n (q := 3) rfl (by decide +kernel))) <|
  zA_c (zOk_fl zn_push (zs_iconst (n := 0) (by decide +kernel) rfl)) <|
  zA_c (zOk_fl zn_istore (zs_istore (by decide +kernel))) <|
  zA_c (zOk_fl zn_iload (zs_iload (by decide +kernel))) <|
  zA_c (zOk_fl zn_push (zs_bipush (n := 8) (by decide +kernel) rfl)) <|
  zA_c (zOk_fl zn_icge (zs_icge (off := 89) (by decide +kernel) (by decide))) <|
  zA_c (zOk_fl zn_iload (zs_iload_n (q := 1) rfl (by decide +kernel))) <|
  zA_c (zOk_fl zn_push (zs_bipush (n := 7) (by decide +kernel) rfl)) <|
  zA_c (zOk_fl zn_bin (zs_iand (by decide +kernel))) <|
  zA_c (zOk_fl zn_pushr (zs_table (j := 0) (by decide) (by decide +kernel) zw_609)) <|
  zA_c (zOk_fl zn_iload (zs_iload (by decide +kernel))) <|
  zA_c (zOk_fl zn_ald (zs_iald (by decide +kernel))) <|
  zA_c (zOk_fl zn_bin (zs_iadd (by decide +kernel))) <|
  zA_c (zOk_fl zn_istore (zs_istore (by decide +kernel))) <|
  zA_c (zOk_fl zn_iload (zs_iload_n (q := 1) rfl (by decide +kernel))) <|
  zA_c (zOk_fl zn_push (zs_iconst (n := 3) (by decide +kernel) rfl)) <|
  zA_c (zOk_fl zn_bin (zs_ishr (by decide +kernel))) <|
  zA_c (zOk_fl zn_pushr (zs_table (j := 1) (by decide) (by decide +kernel) zw_611)) <|
  zA_c (zOk_fl zn_iload (zs_iload (by decide +kernel))) <|
  zA_n
def zcl_82_1 : List (Nat × zmI) := [(33, zm_ald 34 100), (34, zm_bin 35 (fun x y => w32 (x + y))), (35, zm_istore 37 7), (37, zm_iload 39 6), (39, zm_iflt 42 92), (42, zm_iload 44 6), (44, zm_push 46 8), (46, zm_icge 49 92), (49, zm_iload 51 7), (51, zm_iflt 54 92), (54, zm_iload 56 7), (56, zm_push 58 8), (58, zm_icge 61 92), (61, zm_aload 62 0), (62, zm_getR 65 2 0)]
theorem zmc_82_1 (l : Launch) : zAll l "ChessWire$Board" prog_2_method_21_code 8 false (some .long) zcl_82_1 :=
  zA_c (zOk_fl zn_ald (zs_iald (by decide +kernel))) <|
  zA_c (zOk_fl zn_bin (zs_iadd (by decide +kernel))) <|
  zA_c (zOk_fl zn_istore (zs_istore (by decide +kernel))) <|
  zA_c (zOk_fl zn_iload (zs_iload (by decide +kernel))) <|
  zA_c (zOk_fl zn_iflt (zs_iflt (off := 53) (by decide +kernel) (by decide))) <|
  zA_c (zOk_fl zn_iload (zs_iload (by decide +kernel))) <|
  zA_c (zOk_fl zn_push (zs_bipush (n := 8) (by decide +kernel) rfl)) <|
  zA_c (zOk_fl zn_icge (zs_icge (off := 46) (by decide +kernel) (by decide))) <|
  zA_c (zOk_fl zn_iload (zs_iload (by decide +kernel))) <|
  zA_c (zOk_fl zn_iflt (zs_iflt (off := 41) (by decide +kernel) (by decide))) <|
  zA_c (zOk_fl zn_iload (zs_iload (by decide +kernel))) <|
  zA_c (zOk_fl zn_push (zs_bipush (n := 8) (by decide +kernel) rfl)) <|
  zA_c (zOk_fl zn_icge (zs_icge (off := 34) (by decide +kernel) (by decide))) <|
  zA_c (zOk_fl zn_aload (zs_aload_n (q := 0) rfl (by decide +kernel))) <|
  zA_c (zOk_fl zn_getR (zs_getR (k := 0) rfl (by decide) (by decide +kernel) rfl (by decide +kernel) zw_56)) <|
  zA_n
def zcl_82_2 : List (Nat × zmI) := [(65, zm_iload 67 7), (67, zm_push 69 8), (69, zm_bin 70 (fun x y => w32 (x * y))), (70, zm_iload 72 6), (72, zm_bin 73 (fun x y => w32 (x + y))), (73, zm_ald 74 100), (74, zm_iload 75 2), (75, zm_bin 76 (fun x y => w32 (x * y))), (76, zm_ifgt 79 92), (79, zm_lload 80 3), (80, zm_pushl 81 1), (81, zm_iload 83 7), (83, zm_push 85 8), (85, zm_bin 86 (fun x y => w32 (x * y))), (86, zm_iload 88 6), (88, zm_bin 89 (fun x y => w32 (x + y))), (89, zm_shl 90 z_shll), (90, zm_binl 91 z_orl), (91, zm_lstore 92 3), (92, zm_iinc 95 5 1), (95, zm_goto 5)]
theorem zmc_82_2 (l : Launch) : zAll l "ChessWire$Board" prog_2_method_21_code 8 false (some .long) zcl_82_2 :=
  zA_c (zOk_fl zn_iload (zs_iload (by decide +kernel))) <|
  zA_c (zOk_fl zn_push (zs_bipush (n := 8) (by decide +kernel) rfl)) <|
  zA_c (zOk_fl zn_bin (zs_imul (by decide +kernel))) <|
  zA_c (zOk_fl zn_iload (zs_iload (by decide +kernel))) <|
  zA_c (zOk_fl zn_bin (zs_iadd (by decide +kernel))) <|
  zA_c (zOk_fl zn_ald (zs_iald (by decide +kernel))) <|
  zA_c (zOk_fl zn_iload (zs_iload_n (q := 2) rfl (by decide +kernel))) <|
  zA_c (zOk_fl zn_bin (zs_imul (by decide +kernel))) <|
  zA_c (zOk_fl zn_ifgt (zs_ifgt (off := 16) (by decide +kernel) (by decide))) <|
  zA_c (zOk_fl zn_lload (zs_lload_n (q := 3) rfl (by decide +kernel))) <|
  zA_c (zOk_fl zn_pushl (zs_lconst (n := 1) (by decide +kernel) rfl)) <|
  zA_c (zOk_fl zn_iload (zs_iload (by decide +kernel))) <|
  zA_c (zOk_fl zn_push (zs_bipush (n := 8) (by decide +kernel) rfl)) <|
  zA_c (zOk_fl zn_bin (zs_imul (by decide +kernel))) <|
  zA_c (zOk_fl zn_iload (zs_iload (by decide +kernel))) <|
  zA_c (zOk_fl zn_bin (zs_iadd (by decide +kernel))) <|
  zA_c (zOk_fl zn_shl (zs_lshl (by decide +kernel))) <|
  zA_c (zOk_fl zn_binl (zs_lor (by decide +kernel))) <|
  zA_c (zOk_fl zn_lstore (zs_lstore_n (q := 3) rfl (by decide +kernel))) <|
  zA_c (zOk_fl zn_iinc (zs_iinc rfl (by decide +kernel))) <|
  zA_c (zOk_fl zn_goto (zs_goto (off := (-90)) (by decide +kernel) (by decide))) <|
  zA_n
def zcl_82_3 : List (Nat × zmI) := [(98, zm_lload 99 3), (99, zm_lret)]
theorem zmc_82_3 (l : Launch) : zAll l "ChessWire$Board" prog_2_method_21_code 8 false (some .long) zcl_82_3 :=
  zA_c (zOk_fl zn_lload (zs_lload_n (q := 3) rfl (by decide +kernel))) <|
  zA_c (zs_lret (by decide +kernel) rfl) <|
  zA_n
def zc_82 : Nat → zmI := zgetC [zcl_82_0, zcl_82_1, zcl_82_2, zcl_82_3]
theorem zmf_82 (l : Launch) : zMf l zc_82 82 := ⟨by decide +kernel, false, (fun h => by cases h), fun pc => zgetC_ok (zA2_c (zmc_82_0 l) (zA2_c (zmc_82_1 l) (zA2_c (zmc_82_2 l) (zA2_c (zmc_82_3 l) (zA2_n))))) pc⟩
def zcl_83_0 : List (Nat × zmI) := [(0, zm_pushl 1 0), (1, zm_lstore 3 5), (3, zm_push 4 0), (4, zm_istore 6 7), (6, zm_iload 8 7), (8, zm_push 10 8), (10, zm_icge 13 165), (13, zm_iload 14 3), (14, zm_iload 16 7), (16, zm_push 17 1), (17, zm_bin 18 z_and), (18, zm_ifne 21 25), (21, zm_push 22 1), (22, zm_goto 26), (25, zm_push 26 2), (26, zm_bin 27 z_and), (27, zm_ifne 30 33), (30, zm_goto 159)]
theorem zmc_83_0 (l : Launch) : zAll l "ChessWire$Board" prog_2_method_22_code 11 false (some .long) zcl_83_0 :=
  zA_c (zOk_fl zn_pushl (zs_lconst (n := 0) (by decide +kernel) rfl)) <|
  zA_c (zOk_fl zn_lstore (zs_lstore (by decide +kernel))) <|
  zA_c (zOk_fl zn_push (zs_iconst (n := 0) (by decide +kernel) rfl)) <|
  zA_c (zOk_fl zn_istore (zs_istore (by decide +kernel))) <|
  zA_c (zOk_fl zn_iload (zs_iload (by decide +kernel))) <|
  zA_c (zOk_fl zn_push (zs_bipush (n := 8) (by decide +kernel) rfl)) <|
  zA_c (zOk_fl zn_icge (zs_icge (off := 155) (by decide +kernel) (by decide))) <|
  zA_c (zOk_fl zn_iload (zs_iload_n (q := 3) rfl (by decide +kernel))) <|
  zA_c (zOk_fl zn_iload (zs_iload (by decide +kernel))) <|
  zA_c (zOk_fl zn_push (zs_iconst (n := 1) (by decide +kernel) rfl)) <|
  zA_c (zOk_fl zn_bin (zs_iand (by decide +kernel))) <|
  zA_c (zOk_fl zn_ifne (zs_ifne (off := 7) (by decide +kernel) (by decide))) <|
  zA_c (zOk_fl zn_push (zs_iconst (n := 1) (by decide +kernel) rfl)) <|
  zA_c (zOk_fl zn_goto (zs_goto (off := 4) (by decide +kernel) (by decide))) <|
  zA_c (zOk_fl zn_push (zs_iconst (n := 2) (by decide +kernel) rfl)) <|
  zA_c (zOk_fl zn_bin (zs_iand (by decide +kernel))) <|
  zA_c (zOk_fl zn_ifne (zs_ifne (off := 6) (by decide +kernel) (by decide))) <|
  zA_c (zOk_fl zn_goto (zs_goto (off := 129) (by decide +kernel) (by decide))) <|
  zA_n
def zcl_83_1 : List (Nat × zmI) := [(33, zm_push 34 1), (34, zm_istore 36 8), (36, zm_iload 38 8), (38, zm_iload 40 4), (40, zm_icgt 43 159), (43, zm_iload 44 1), (44, zm_push 46 7), (46, zm_bin 47 z_and), (47, zm_iload 49 8), (49, zm_pushr 52 (zXB + 2)), (52, zm_iload 54 7), (54, zm_ald 55 100), (55, zm_bin 56 (fun x y => w32 (x * y))), (56, zm_bin 57 (fun x y => w32 (x + y))), (57, zm_istore 59 9), (59, zm_iload 60 1), (60, zm_push 61 3), (61, zm_bin 62 z_shr), (62, zm_iload 64 8)]
theorem zmc_83_1 (l : Launch) : zAll l "ChessWire$Board" prog_2_method_22_code 11 false (some .long) zcl_83_1 :=
  zA_c (zOk_fl zn_push (zs_iconst (n := 1) (by decide +kernel) rfl)) <|
  zA_c (zOk_fl zn_istore (zs_istore (by decide +kernel))) <|
  zA_c (zOk_fl zn_iload (zs_iload (by decide +kernel))) <|
  zA_c (zOk_fl zn_iload (zs_iload (by decide +kernel))) <|
  zA_c (zOk_fl zn_icgt (zs_icgt (off := 119) (by decide +kernel) (by decide))) <|
  zA_c (zOk_fl zn_iload (zs_iload_n (q := 1) rfl (by decide +kernel))) <|
  zA_c (zOk_fl zn_push (zs_bipush (n := 7) (by decide +kernel) rfl)) <|
  zA_c (zOk_fl zn_bin (zs_iand (by decide +kernel))) <|
  zA_c (zOk_fl zn_iload (zs_iload (by decide +kernel))) <|
  zA_c (zOk_fl zn_pushr (zs_table (j := 2) (by decide) (by decide +kernel) zw_617)) <|
  zA_c (zOk_fl zn_iload (zs_iload (by decide +kernel))) <|
  zA_c (zOk_fl zn_ald (zs_iald (by decide +kernel))) <|
  zA_c (zOk_fl zn_bin (zs_imul (by decide +kernel))) <|
  zA_c (zOk_fl zn_bin (zs_iadd (by decide +kernel))) <|
  zA_c (zOk_fl zn_istore (zs_istore (by decide +kernel))) <|
  zA_c (zOk_fl zn_iload (zs_iload_n (q := 1) rfl (by decide +kernel))) <|
  zA_c (zOk_fl zn_push (zs_iconst (n := 3) (by decide +kernel) rfl)) <|
  zA_c (zOk_fl zn_bin (zs_ishr (by decide +kernel))) <|
  zA_c (zOk_fl zn_iload (zs_iload (by decide +kernel))) <|
  zA_n
def zcl_83_2 : List (Nat × zmI) := [(64, zm_pushr 67 (zXB + 3)), (67, zm_iload 69 7), (69, zm_ald 70 100), (70, zm_bin 71 (fun x y => w32 (x * y))), (71, zm_bin 72 (fun x y => w32 (x + y))), (72, zm_istore 74 10), (74, zm_iload 76 9), (76, zm_iflt 79 159), (79, zm_iload 81 9), (81, zm_push 83 8), (83, zm_icge 86 159), (86, zm_iload 88 10), (88, zm_iflt 91 159), (91, zm_iload 93 10), (93, zm_push 95 8), (95, zm_icge 98 159)]
theorem zmc_83_2 (l : Launch) : zAll l "ChessWire$Board" prog_2_method_22_code 11 false (some .long) zcl_83_2 :=
  zA_c (zOk_fl zn_pushr (zs_table (j := 3) (by decide) (by decide +kernel) zw_619)) <|
  zA_c (zOk_fl zn_iload (zs_iload (by decide +kernel))) <|
  zA_c (zOk_fl zn_ald (zs_iald (by decide +kernel))) <|
  zA_c (zOk_fl zn_bin (zs_imul (by decide +kernel))) <|
  zA_c (zOk_fl zn_bin (zs_iadd (by decide +kernel))) <|
  zA_c (zOk_fl zn_istore (zs_istore (by decide +kernel))) <|
  zA_c (zOk_fl zn_iload (zs_iload (by decide +kernel))) <|
  zA_c (zOk_fl zn_iflt (zs_iflt (off := 83) (by decide +kernel) (by decide))) <|
  zA_c (zOk_fl zn_iload (zs_iload (by decide +kernel))) <|
  zA_c (zOk_fl zn_push (zs_bipush (n := 8) (by decide +kernel) rfl)) <|
  zA_c (zOk_fl zn_icge (zs_icge (off := 76) (by decide +kernel) (by decide))) <|
  zA_c (zOk_fl zn_iload (zs_iload (by decide +kernel))) <|
  zA_c (zOk_fl zn_iflt (zs_iflt (off := 71) (by decide +kernel) (by decide))) <|
  zA_c (zOk_fl zn_iload (zs_iload (by decide +kernel))) <|
  zA_c (zOk_fl zn_push (zs_bipush (n := 8) (by decide +kernel) rfl)) <|
  zA_c (zOk_fl zn_icge (zs_icge (off := 64) (by decide +kernel) (by decide))) <|
  zA_n
def zcl_83_3 : List (Nat × zmI) := [(98, zm_aload 99 0), (99, zm_getR 102 2 0), (102, zm_iload 104 10), (104, zm_push 106 8), (106, zm_bin 107 (fun x y => w32 (x * y))), (107, zm_iload 109 9), (109, zm_bin 110 (fun x y => w32 (x + y))), (110, zm_ald 111 100), (111, zm_iload 112 2), (112, zm_bin 113 (fun x y => w32 (x * y))), (113, zm_ifle 116 119), (116, zm_goto 159), (119, zm_lload 121 5), (121, zm_pushl 122 1), (122, zm_iload 124 10), (124, zm_push 126 8), (126, zm_bin 127 (fun x y => w32 (x * y))), (127, zm_iload 129 9)]
theorem zmc_83_3 (l : Launch) : zAll l "ChessWire$Board" prog_2_method_22_code 11 false (some .long) zcl_83_3 :=
  zA_c (zOk_fl zn_aload (zs_aload_n (q := 0) rfl (by decide +kernel))) <|
  zA_c (zOk_fl zn_getR (zs_getR (k := 0) rfl (by decide) (by decide +kernel) rfl (by decide +kernel) zw_56)) <|
  zA_c (zOk_fl zn_iload (zs_iload (by decide +kernel))) <|
  zA_c (zOk_fl zn_push (zs_bipush (n := 8) (by decide +kernel) rfl)) <|
  zA_c (zOk_fl zn_bin (zs_imul (by decide +kernel))) <|
  zA_c (zOk_fl zn_iload (zs_iload (by decide +kernel))) <|
  zA_c (zOk_fl zn_bin (zs_iadd (by decide +kernel))) <|
  zA_c (zOk_fl zn_ald (zs_iald (by decide +kernel))) <|
  zA_c (zOk_fl zn_iload (zs_iload_n (q := 2) rfl (by decide +kernel))) <|
  zA_c (zOk_fl zn_bin (zs_imul (by decide +kernel))) <|
  zA_c (zOk_fl zn_ifle (zs_ifle (off := 6) (by decide +kernel) (by decide))) <|
  zA_c (zOk_fl zn_goto (zs_goto (off := 43) (by decide +kernel) (by decide))) <|
  zA_c (zOk_fl zn_lload (zs_lload (by decide +kernel))) <|
  zA_c (zOk_fl zn_pushl (zs_lconst (n := 1) (by decide +kernel) rfl)) <|
  zA_c (zOk_fl zn_iload (zs_iload (by decide +kernel))) <|
  zA_c (zOk_fl zn_push (zs_bipush (n := 8) (by decide +kernel) rfl)) <|
  zA_c (zOk_fl zn_bin (zs_imul (by decide +kernel))) <|
  zA_c (zOk_fl zn_iload (zs_iload (by decide +kernel))) <|
  zA_n
def zcl_83_4 : List (Nat × zmI) := [(129, zm_bin 130 (fun x y => w32 (x + y))), (130, zm_shl 131 z_shll), (131, zm_binl 132 z_orl), (132, zm_lstore 134 5), (134, zm_aload 135 0), (135, zm_getR 138 2 0), (138, zm_iload 140 10), (140, zm_push 142 8), (142, zm_bin 143 (fun x y => w32 (x * y))), (143, zm_iload 145 9), (145, zm_bin 146 (fun x y => w32 (x + y))), (146, zm_ald 147 100), (147, zm_ifeq 150 153), (150, zm_goto 159), (153, zm_iinc 156 8 1), (156, zm_goto 36), (159, zm_iinc 162 7 1)]
theorem zmc_83_4 (l : Launch) : zAll l "ChessWire$Board" prog_2_method_22_code 11 false (some .long) zcl_83_4 :=
  zA_c (zOk_fl zn_bin (zs_iadd (by decide +kernel))) <|
  zA_c (zOk_fl zn_shl (zs_lshl (by decide +kernel))) <|
  zA_c (zOk_fl zn_binl (zs_lor (by decide +kernel))) <|
  zA_c (zOk_fl zn_lstore (zs_lstore (by decide +kernel))) <|
  zA_c (zOk_fl zn_aload (zs_aload_n (q := 0) rfl (by decide +kernel))) <|
  zA_c (zOk_fl zn_getR (zs_getR (k := 0) rfl (by decide) (by decide +kernel) rfl (by decide +kernel) zw_56)) <|
  zA_c (zOk_fl zn_iload (zs_iload (by decide +kernel))) <|
  zA_c (zOk_fl zn_push (zs_bipush (n := 8) (by decide +kernel) rfl)) <|
  zA_c (zOk_fl zn_bin (zs_imul (by decide +kernel))) <|
  zA_c (zOk_fl zn_iload (zs_iload (by decide +kernel))) <|
  zA_c (zOk_fl zn_bin (zs_iadd (by decide +kernel))) <|
  zA_c (zOk_fl zn_ald (zs_iald (by decide +kernel))) <|
  zA_c (zOk_fl zn_ifeq (zs_ifeq (off := 6) (by decide +kernel) (by decide))) <|
  zA_c (zOk_fl zn_goto (zs_goto (off := 9) (by decide +kernel) (by decide))) <|
  zA_c (zOk_fl zn_iinc (zs_iinc rfl (by decide +kernel))) <|
  zA_c (zOk_fl zn_goto (zs_goto (off := (-120)) (by decide +kernel) (by decide))) <|
  zA_c (zOk_fl zn_iinc (zs_iinc rfl (by decide +kernel))) <|
  zA_n
def zcl_83_5 : List (Nat × zmI) := [(162, zm_goto 6), (165, zm_lload 167 5), (167, zm_lret)]
theorem zmc_83_5 (l : Launch) : zAll l "ChessWire$Board" prog_2_method_22_code 11 false (some .long) zcl_83_5 :=
  zA_c (zOk_fl zn_goto (zs_goto (off := (-156)) (by decide +kernel) (by decide))) <|
  zA_c (zOk_fl zn_lload (zs_lload (by decide +kernel))) <|
  zA_c (zs_lret (by decide +kernel) rfl) <|
  zA_n
def zc_83 : Nat → zmI := zgetC [zcl_83_0, zcl_83_1, zcl_83_2, zcl_83_3, zcl_83_4, zcl_83_5]
theorem zmf_83 (l : Launch) : zMf l zc_83 83 := ⟨by decide +kernel, false, (fun h => by cases h), fun pc => zgetC_ok (zA2_c (zmc_83_0 l) (zA2_c (zmc_83_1 l) (zA2_c (zmc_83_2 l) (zA2_c (zmc_83_3 l) (zA2_c (zmc_83_4 l) (zA2_c (zmc_83_5 l) (zA2_n))))))) pc⟩
def zcl_84_0 : List (Nat × zmI) := [(0, zm_lload 1 0), (1, zm_lload 2 0), (2, zm_push 3 1), (3, zm_shl 4 z_ushrl), (4, zm_pushl 7 6148914691236517205), (7, zm_binl 8 z_andl), (8, zm_binl 9 (fun x y => w64 (x - y))), (9, zm_lstore 10 0), (10, zm_lload 11 0), (11, zm_pushl 14 3689348814741910323), (14, zm_binl 15 z_andl), (15, zm_lload 16 0), (16, zm_push 17 2), (17, zm_shl 18 z_ushrl), (18, zm_pushl 21 3689348814741910323), (21, zm_binl 22 z_andl), (22, zm_binl 23 (fun x y => w64 (x + y))), (23, zm_lstore 24 0), (24, zm_lload 25 0), (25, zm_lload 26 0), (26, zm_push 27 4), (27, zm_shl 28 z_ushrl), (28, zm_binl 29 (fun x y => w64 (x + y))), (29, zm_pushl 32 1085102592571150095)]
theorem zmc_84_0 (l : Launch) : zAll l "java/lang/Long" prog_17_method_50_code 2 false (some .int) zcl_84_0 :=
  zA_c (zOk_fl zn_lload (zs_lload_n (q := 0) rfl (by decide +kernel))) <|
  zA_c (zOk_fl zn_lload (zs_lload_n (q := 0) rfl (by decide +kernel))) <|
  zA_c (zOk_fl zn_push (zs_iconst (n := 1) (by decide +kernel) rfl)) <|
  zA_c (zOk_fl zn_shl (zs_lushr (by decide +kernel))) <|
  zA_c (zOk_fl zn_pushl (zs_ldc2 (by decide +kernel) zw_643 rfl)) <|
  zA_c (zOk_fl zn_binl (zs_land (by decide +kernel))) <|
  zA_c (zOk_fl zn_binl (zs_lsub (by decide +kernel))) <|
  zA_c (zOk_fl zn_lstore (zs_lstore_n (q := 0) rfl (by decide +kernel))) <|
  zA_c (zOk_fl zn_lload (zs_lload_n (q := 0) rfl (by decide +kernel))) <|
  zA_c (zOk_fl zn_pushl (zs_ldc2 (by decide +kernel) zw_644 rfl)) <|
  zA_c (zOk_fl zn_binl (zs_land (by decide +kernel))) <|
  zA_c (zOk_fl zn_lload (zs_lload_n (q := 0) rfl (by decide +kernel))) <|
  zA_c (zOk_fl zn_push (zs_iconst (n := 2) (by decide +kernel) rfl)) <|
  zA_c (zOk_fl zn_shl (zs_lushr (by decide +kernel))) <|
  zA_c (zOk_fl zn_pushl (zs_ldc2 (by decide +kernel) zw_644 rfl)) <|
  zA_c (zOk_fl zn_binl (zs_land (by decide +kernel))) <|
  zA_c (zOk_fl zn_binl (zs_ladd (by decide +kernel))) <|
  zA_c (zOk_fl zn_lstore (zs_lstore_n (q := 0) rfl (by decide +kernel))) <|
  zA_c (zOk_fl zn_lload (zs_lload_n (q := 0) rfl (by decide +kernel))) <|
  zA_c (zOk_fl zn_lload (zs_lload_n (q := 0) rfl (by decide +kernel))) <|
  zA_c (zOk_fl zn_push (zs_iconst (n := 4) (by decide +kernel) rfl)) <|
  zA_c (zOk_fl zn_shl (zs_lushr (by decide +kernel))) <|
  zA_c (zOk_fl zn_binl (zs_ladd (by decide +kernel))) <|
  zA_c (zOk_fl zn_pushl (zs_ldc2 (by decide +kernel) zw_645 rfl)) <|
  zA_n
def zcl_84_1 : List (Nat × zmI) := [(32, zm_binl 33 z_andl), (33, zm_lstore 34 0), (34, zm_lload 35 0), (35, zm_lload 36 0), (36, zm_push 38 8), (38, zm_shl 39 z_ushrl), (39, zm_binl 40 (fun x y => w64 (x + y))), (40, zm_lstore 41 0), (41, zm_lload 42 0), (42, zm_lload 43 0), (43, zm_push 45 16), (45, zm_shl 46 z_ushrl), (46, zm_binl 47 (fun x y => w64 (x + y))), (47, zm_lstore 48 0), (48, zm_lload 49 0), (49, zm_lload 50 0), (50, zm_push 52 32), (52, zm_shl 53 z_ushrl), (53, zm_binl 54 (fun x y => w64 (x + y))), (54, zm_lstore 55 0), (55, zm_lload 56 0), (56, zm_l2i 57), (57, zm_push 59 127), (59, zm_bin 60 z_and), (60, zm_iret)]
theorem zmc_84_1 (l : Launch) : zAll l "java/lang/Long" prog_17_method_50_code 2 false (some .int) zcl_84_1 :=
  zA_c (zOk_fl zn_binl (zs_land (by decide +kernel))) <|
  zA_c (zOk_fl zn_lstore (zs_lstore_n (q := 0) rfl (by decide +kernel))) <|
  zA_c (zOk_fl zn_lload (zs_lload_n (q := 0) rfl (by decide +kernel))) <|
  zA_c (zOk_fl zn_lload (zs_lload_n (q := 0) rfl (by decide +kernel))) <|
  zA_c (zOk_fl zn_push (zs_bipush (n := 8) (by decide +kernel) rfl)) <|
  zA_c (zOk_fl zn_shl (zs_lushr (by decide +kernel))) <|
  zA_c (zOk_fl zn_binl (zs_ladd (by decide +kernel))) <|
  zA_c (zOk_fl zn_lstore (zs_lstore_n (q := 0) rfl (by decide +kernel))) <|
  zA_c (zOk_fl zn_lload (zs_lload_n (q := 0) rfl (by decide +kernel))) <|
  zA_c (zOk_fl zn_lload (zs_lload_n (q := 0) rfl (by decide +kernel))) <|
  zA_c (zOk_fl zn_push (zs_bipush (n := 16) (by decide +kernel) rfl)) <|
  zA_c (zOk_fl zn_shl (zs_lushr (by decide +kernel))) <|
  zA_c (zOk_fl zn_binl (zs_ladd (by decide +kernel))) <|
  zA_c (zOk_fl zn_lstore (zs_lstore_n (q := 0) rfl (by decide +kernel))) <|
  zA_c (zOk_fl zn_lload (zs_lload_n (q := 0) rfl (by decide +kernel))) <|
  zA_c (zOk_fl zn_lload (zs_lload_n (q := 0) rfl (by decide +kernel))) <|
  zA_c (zOk_fl zn_push (zs_bipush (n := 32) (by decide +kernel) rfl)) <|
  zA_c (zOk_fl zn_shl (zs_lushr (by decide +kernel))) <|
  zA_c (zOk_fl zn_binl (zs_ladd (by decide +kernel))) <|
  zA_c (zOk_fl zn_lstore (zs_lstore_n (q := 0) rfl (by decide +kernel))) <|
  zA_c (zOk_fl zn_lload (zs_lload_n (q := 0) rfl (by decide +kernel))) <|
  zA_c (zOk_fl zn_l2i (zs_l2i (by decide +kernel))) <|
  zA_c (zOk_fl zn_push (zs_bipush (n := 127) (by decide +kernel) rfl)) <|
  zA_c (zOk_fl zn_bin (zs_iand (by decide +kernel))) <|
  zA_c (zs_iret (by decide +kernel) rfl) <|
  zA_n
def zc_84 : Nat → zmI := zgetC [zcl_84_0, zcl_84_1]
theorem zmf_84 (l : Launch) : zMf l zc_84 84 := ⟨by decide +kernel, false, (fun h => by cases h), fun pc => zgetC_ok (zA2_c (zmc_84_0 l) (zA2_c (zmc_84_1 l) (zA2_n))) pc⟩
def zcl_85_0 : List (Nat × zmI) := [(0, zm_aload 1 0), (1, zm_getI 4 4 2), (4, zm_ifeq 7 27), (7, zm_aload 8 0), (8, zm_getI 11 4 0), (11, zm_iload 12 1), (12, zm_iload 13 2), (13, zm_call 16 86 3 true 99), (16, zm_aload 17 0), (17, zm_getI 20 4 1), (20, zm_icne 23 27), (23, zm_push 24 1), (24, zm_goto 28), (27, zm_push 28 0), (28, zm_zret)]
theorem zmc_85_0 (l : Launch) : zAll l "ChessWire$Saying" prog_10_method_9_code 3 false (some .boolean) zcl_85_0 :=
  zA_c (zOk_fl zn_aload (zs_aload_n (q := 0) rfl (by decide +kernel))) <|
  zA_c (zOk_fl zn_getI (zs_getI (k := 2) rfl (by decide) (by decide +kernel) rfl (by decide +kernel) zw_93)) <|
  zA_c (zOk_fl zn_ifeq (zs_ifeq (off := 23) (by decide +kernel) (by decide))) <|
  zA_c (zOk_fl zn_aload (zs_aload_n (q := 0) rfl (by decide +kernel))) <|
  zA_c (zOk_fl zn_getI (zs_getI (k := 0) rfl (by decide) (by decide +kernel) rfl (by decide +kernel) zw_91)) <|
  zA_c (zOk_fl zn_iload (zs_iload_n (q := 1) rfl (by decide +kernel))) <|
  zA_c (zOk_fl zn_iload (zs_iload_n (q := 2) rfl (by decide +kernel))) <|
  zA_c (zk_S zq_86 zw_650 (by decide +kernel)) <|
  zA_c (zOk_fl zn_aload (zs_aload_n (q := 0) rfl (by decide +kernel))) <|
  zA_c (zOk_fl zn_getI (zs_getI (k := 1) rfl (by decide) (by decide +kernel) rfl (by decide +kernel) zw_92)) <|
  zA_c (zOk_fl zn_icne (zs_icne (off := 7) (by decide +kernel) (by decide))) <|
  zA_c (zOk_fl zn_push (zs_iconst (n := 1) (by decide +kernel) rfl)) <|
  zA_c (zOk_fl zn_goto (zs_goto (off := 4) (by decide +kernel) (by decide))) <|
  zA_c (zOk_fl zn_push (zs_iconst (n := 0) (by decide +kernel) rfl)) <|
  zA_c (zs_zret (by decide +kernel) rfl) <|
  zA_n
def zc_85 : Nat → zmI := zgetC [zcl_85_0]
theorem zmf_85 (l : Launch) : zMf l zc_85 85 := ⟨by decide +kernel, false, (fun h => by cases h), fun pc => zgetC_ok (zA2_c (zmc_85_0 l) (zA2_n)) pc⟩
def zcl_86_0 : List (Nat × zmI) := [(0, zm_iload 1 0), (1, zm_push 3 16), (3, zm_bin 4 z_and), (4, zm_ifeq 7 11), (7, zm_iload 8 1), (8, zm_goto 12), (11, zm_push 12 0), (12, zm_istore 13 3), (13, zm_iload 14 0), (14, zm_push 16 8), (16, zm_bin 17 z_and), (17, zm_ifeq 20 33), (20, zm_iload 21 3), (21, zm_push 23 8), (23, zm_bin 24 (fun x y => w32 (x * y))), (24, zm_iload 25 2), (25, zm_push 27 6), (27, zm_bin 28 z_shr), (28, zm_push 30 7), (30, zm_bin 31 z_and), (31, zm_bin 32 (fun x y => w32 (x + y)))]
theorem zmc_86_0 (l : Launch) : zAll l "ChessWire$Saying" prog_10_method_10_code 4 false (some .int) zcl_86_0 :=
  zA_c (zOk_fl zn_iload (zs_iload_n (q := 0) rfl (by decide +kernel))) <|
  zA_c (zOk_fl zn_push (zs_bipush (n := 16) (by decide +kernel) rfl)) <|
  zA_c (zOk_fl zn_bin (zs_iand (by decide +kernel))) <|
  zA_c (zOk_fl zn_ifeq (zs_ifeq (off := 7) (by decide +kernel) (by decide))) <|
  zA_c (zOk_fl zn_iload (zs_iload_n (q := 1) rfl (by decide +kernel))) <|
  zA_c (zOk_fl zn_goto (zs_goto (off := 4) (by decide +kernel) (by decide))) <|
  zA_c (zOk_fl zn_push (zs_iconst (n := 0) (by decide +kernel) rfl)) <|
  zA_c (zOk_fl zn_istore (zs_istore_n (q := 3) rfl (by decide +kernel))) <|
  zA_c (zOk_fl zn_iload (zs_iload_n (q := 0) rfl (by decide +kernel))) <|
  zA_c (zOk_fl zn_push (zs_bipush (n := 8) (by decide +kernel) rfl)) <|
  zA_c (zOk_fl zn_bin (zs_iand (by decide +kernel))) <|
  zA_c (zOk_fl zn_ifeq (zs_ifeq (off := 16) (by decide +kernel) (by decide))) <|
  zA_c (zOk_fl zn_iload (zs_iload_n (q := 3) rfl (by decide +kernel))) <|
  zA_c (zOk_fl zn_push (zs_bipush (n := 8) (by decide +kernel) rfl)) <|
  zA_c (zOk_fl zn_bin (zs_imul (by decide +kernel))) <|
  zA_c (zOk_fl zn_iload (zs_iload_n (q := 2) rfl (by decide +kernel))) <|
  zA_c (zOk_fl zn_push (zs_bipush (n := 6) (by decide +kernel) rfl)) <|
  zA_c (zOk_fl zn_bin (zs_ishr (by decide +kernel))) <|
  zA_c (zOk_fl zn_push (zs_bipush (n := 7) (by decide +kernel) rfl)) <|
  zA_c (zOk_fl zn_bin (zs_iand (by decide +kernel))) <|
  zA_c (zOk_fl zn_bin (zs_iadd (by decide +kernel))) <|
  zA_n
def zcl_86_1 : List (Nat × zmI) := [(32, zm_istore 33 3), (33, zm_iload 34 0), (34, zm_push 35 4), (35, zm_bin 36 z_and), (36, zm_ifeq 39 52), (39, zm_iload 40 3), (40, zm_push 42 8), (42, zm_bin 43 (fun x y => w32 (x * y))), (43, zm_iload 44 2), (44, zm_push 46 9), (46, zm_bin 47 z_shr), (47, zm_push 49 7), (49, zm_bin 50 z_and), (50, zm_bin 51 (fun x y => w32 (x + y))), (51, zm_istore 52 3), (52, zm_iload 53 0), (53, zm_push 54 2), (54, zm_bin 55 z_and), (55, zm_ifeq 58 68), (58, zm_iload 59 3), (59, zm_push 61 8), (61, zm_bin 62 (fun x y => w32 (x * y))), (62, zm_iload 63 2), (63, zm_push 65 7)]
theorem zmc_86_1 (l : Launch) : zAll l "ChessWire$Saying" prog_10_method_10_code 4 false (some .int) zcl_86_1 :=
  zA_c (zOk_fl zn_istore (zs_istore_n (q := 3) rfl (by decide +kernel))) <|
  zA_c (zOk_fl zn_iload (zs_iload_n (q := 0) rfl (by decide +kernel))) <|
  zA_c (zOk_fl zn_push (zs_iconst (n := 4) (by decide +kernel) rfl)) <|
  zA_c (zOk_fl zn_bin (zs_iand (by decide +kernel))) <|
  zA_c (zOk_fl zn_ifeq (zs_ifeq (off := 16) (by decide +kernel) (by decide))) <|
  zA_c (zOk_fl zn_iload (zs_iload_n (q := 3) rfl (by decide +kernel))) <|
  zA_c (zOk_fl zn_push (zs_bipush (n := 8) (by decide +kernel) rfl)) <|
  zA_c (zOk_fl zn_bin (zs_imul (by decide +kernel))) <|
  zA_c (zOk_fl zn_iload (zs_iload_n (q := 2) rfl (by decide +kernel))) <|
  zA_c (zOk_fl zn_push (zs_bipush (n := 9) (by decide +kernel) rfl)) <|
  zA_c (zOk_fl zn_bin (zs_ishr (by decide +kernel))) <|
  zA_c (zOk_fl zn_push (zs_bipush (n := 7) (by decide +kernel) rfl)) <|
  zA_c (zOk_fl zn_bin (zs_iand (by decide +kernel))) <|
  zA_c (zOk_fl zn_bin (zs_iadd (by decide +kernel))) <|
  zA_c (zOk_fl zn_istore (zs_istore_n (q := 3) rfl (by decide +kernel))) <|
  zA_c (zOk_fl zn_iload (zs_iload_n (q := 0) rfl (by decide +kernel))) <|
  zA_c (zOk_fl zn_push (zs_iconst (n := 2) (by decide +kernel) rfl)) <|
  zA_c (zOk_fl zn_bin (zs_iand (by decide +kernel))) <|
  zA_c (zOk_fl zn_ifeq (zs_ifeq (off := 13) (by decide +kernel) (by decide))) <|
  zA_c (zOk_fl zn_iload (zs_iload_n (q := 3) rfl (by decide +kernel))) <|
  zA_c (zOk_fl zn_push (zs_bipush (n := 8) (by decide +kernel) rfl)) <|
  zA_c (zOk_fl zn_bin (zs_imul (by decide +kernel))) <|
  zA_c (zOk_fl zn_iload (zs_iload_n (q := 2) rfl (by decide +kernel))) <|
  zA_c (zOk_fl zn_push (zs_bipush (n := 7) (by decide +kernel) rfl)) <|
  zA_n
def zcl_86_2 : List (Nat × zmI) := [(65, zm_bin 66 z_and), (66, zm_bin 67 (fun x y => w32 (x + y))), (67, zm_istore 68 3), (68, zm_iload 69 0), (69, zm_push 70 1), (70, zm_bin 71 z_and), (71, zm_ifeq 74 86), (74, zm_iload 75 3), (75, zm_push 77 8), (77, zm_bin 78 (fun x y => w32 (x * y))), (78, zm_iload 79 2), (79, zm_push 80 3), (80, zm_bin 81 z_shr), (81, zm_push 83 7), (83, zm_bin 84 z_and), (84, zm_bin 85 (fun x y => w32 (x + y))), (85, zm_istore 86 3), (86, zm_iload 87 3), (87, zm_iret)]
theorem zmc_86_2 (l : Launch) : zAll l "ChessWire$Saying" prog_10_method_10_code 4 false (some .int) zcl_86_2 :=
  zA_c (zOk_fl zn_bin (zs_iand (by decide +kernel))) <|
  zA_c (zOk_fl zn_bin (zs_iadd (by decide +kernel))) <|
  zA_c (zOk_fl zn_istore (zs_istore_n (q := 3) rfl (by decide +kernel))) <|
  zA_c (zOk_fl zn_iload (zs_iload_n (q := 0) rfl (by decide +kernel))) <|
  zA_c (zOk_fl zn_push (zs_iconst (n := 1) (by decide +kernel) rfl)) <|
  zA_c (zOk_fl zn_bin (zs_iand (by decide +kernel))) <|
  zA_c (zOk_fl zn_ifeq (zs_ifeq (off := 15) (by decide +kernel) (by decide))) <|
  zA_c (zOk_fl zn_iload (zs_iload_n (q := 3) rfl (by decide +kernel))) <|
  zA_c (zOk_fl zn_push (zs_bipush (n := 8) (by decide +kernel) rfl)) <|
  zA_c (zOk_fl zn_bin (zs_imul (by decide +kernel))) <|
  zA_c (zOk_fl zn_iload (zs_iload_n (q := 2) rfl (by decide +kernel))) <|
  zA_c (zOk_fl zn_push (zs_iconst (n := 3) (by decide +kernel) rfl)) <|
  zA_c (zOk_fl zn_bin (zs_ishr (by decide +kernel))) <|
  zA_c (zOk_fl zn_push (zs_bipush (n := 7) (by decide +kernel) rfl)) <|
  zA_c (zOk_fl zn_bin (zs_iand (by decide +kernel))) <|
  zA_c (zOk_fl zn_bin (zs_iadd (by decide +kernel))) <|
  zA_c (zOk_fl zn_istore (zs_istore_n (q := 3) rfl (by decide +kernel))) <|
  zA_c (zOk_fl zn_iload (zs_iload_n (q := 3) rfl (by decide +kernel))) <|
  zA_c (zs_iret (by decide +kernel) rfl) <|
  zA_n
def zc_86 : Nat → zmI := zgetC [zcl_86_0, zcl_86_1, zcl_86_2]
theorem zmf_86 (l : Launch) : zMf l zc_86 86 := ⟨by decide +kernel, false, (fun h => by cases h), fun pc => zgetC_ok (zA2_c (zmc_86_0 l) (zA2_c (zmc_86_1 l) (zA2_c (zmc_86_2 l) (zA2_n)))) pc⟩
def zcl_87_0 : List (Nat × zmI) := [(0, zm_aload 1 0), (1, zm_getR 4 2 0), (4, zm_iload 5 1), (5, zm_ald 6 100), (6, zm_istore 8 4), (8, zm_aload 9 0), (9, zm_getR 12 2 0), (12, zm_iload 13 2), (13, zm_ald 14 100), (14, zm_istore 16 5), (16, zm_aload 17 0), (17, zm_getR 20 2 0), (20, zm_iload 21 1), (21, zm_push 22 0), (22, zm_iast 23), (23, zm_aload 24 0), (24, zm_getR 27 2 0), (27, zm_iload 28 2), (28, zm_iload 30 4), (30, zm_iast 31), (31, zm_aload 32 0)]
theorem zmc_87_0 (l : Launch) : zAll l "ChessWire$Board" prog_2_method_16_code 7 false (some .boolean) zcl_87_0 :=
  zA_c (zOk_fl zn_aload (zs_aload_n (q := 0) rfl (by decide +kernel))) <|
  zA_c (zOk_fl zn_getR (zs_getR (k := 0) rfl (by decide) (by decide +kernel) rfl (by decide +kernel) zw_56)) <|
  zA_c (zOk_fl zn_iload (zs_iload_n (q := 1) rfl (by decide +kernel))) <|
  zA_c (zOk_fl zn_ald (zs_iald (by decide +kernel))) <|
  zA_c (zOk_fl zn_istore (zs_istore (by decide +kernel))) <|
  zA_c (zOk_fl zn_aload (zs_aload_n (q := 0) rfl (by decide +kernel))) <|
  zA_c (zOk_fl zn_getR (zs_getR (k := 0) rfl (by decide) (by decide +kernel) rfl (by decide +kernel) zw_56)) <|
  zA_c (zOk_fl zn_iload (zs_iload_n (q := 2) rfl (by decide +kernel))) <|
  zA_c (zOk_fl zn_ald (zs_iald (by decide +kernel))) <|
  zA_c (zOk_fl zn_istore (zs_istore (by decide +kernel))) <|
  zA_c (zOk_fl zn_aload (zs_aload_n (q := 0) rfl (by decide +kernel))) <|
  zA_c (zOk_fl zn_getR (zs_getR (k := 0) rfl (by decide) (by decide +kernel) rfl (by decide +kernel) zw_56)) <|
  zA_c (zOk_fl zn_iload (zs_iload_n (q := 1) rfl (by decide +kernel))) <|
  zA_c (zOk_fl zn_push (zs_iconst (n := 0) (by decide +kernel) rfl)) <|
  zA_c (zOk_sn zn_iast (zs_iast (by decide +kernel))) <|
  zA_c (zOk_fl zn_aload (zs_aload_n (q := 0) rfl (by decide +kernel))) <|
  zA_c (zOk_fl zn_getR (zs_getR (k := 0) rfl (by decide) (by decide +kernel) rfl (by decide +kernel) zw_56)) <|
  zA_c (zOk_fl zn_iload (zs_iload_n (q := 2) rfl (by decide +kernel))) <|
  zA_c (zOk_fl zn_iload (zs_iload (by decide +kernel))) <|
  zA_c (zOk_sn zn_iast (zs_iast (by decide +kernel))) <|
  zA_c (zOk_fl zn_aload (zs_aload_n (q := 0) rfl (by decide +kernel))) <|
  zA_n
def zcl_87_1 : List (Nat × zmI) := [(32, zm_iload 33 1), (33, zm_iload 34 3), (34, zm_icne 37 41), (37, zm_iload 38 2), (38, zm_goto 42), (41, zm_iload 42 3), (42, zm_call 45 77 2 true 2), (45, zm_ifne 48 52), (48, zm_push 49 1), (49, zm_goto 53), (52, zm_push 53 0), (53, zm_istore 55 6), (55, zm_aload 56 0), (56, zm_getR 59 2 0), (59, zm_iload 60 1), (60, zm_iload 62 4), (62, zm_iast 63), (63, zm_aload 64 0)]
theorem zmc_87_1 (l : Launch) : zAll l "ChessWire$Board" prog_2_method_16_code 7 false (some .boolean) zcl_87_1 :=
  zA_c (zOk_fl zn_iload (zs_iload_n (q := 1) rfl (by decide +kernel))) <|
  zA_c (zOk_fl zn_iload (zs_iload_n (q := 3) rfl (by decide +kernel))) <|
  zA_c (zOk_fl zn_icne (zs_icne (off := 7) (by decide +kernel) (by decide))) <|
  zA_c (zOk_fl zn_iload (zs_iload_n (q := 2) rfl (by decide +kernel))) <|
  zA_c (zOk_fl zn_goto (zs_goto (off := 4) (by decide +kernel) (by decide))) <|
  zA_c (zOk_fl zn_iload (zs_iload_n (q := 3) rfl (by decide +kernel))) <|
  zA_c (zk_V zq_77 zw_605 rfl (by decide +kernel)) <|
  zA_c (zOk_fl zn_ifne (zs_ifne (off := 7) (by decide +kernel) (by decide))) <|
  zA_c (zOk_fl zn_push (zs_iconst (n := 1) (by decide +kernel) rfl)) <|
  zA_c (zOk_fl zn_goto (zs_goto (off := 4) (by decide +kernel) (by decide))) <|
  zA_c (zOk_fl zn_push (zs_iconst (n := 0) (by decide +kernel) rfl)) <|
  zA_c (zOk_fl zn_istore (zs_istore (by decide +kernel))) <|
  zA_c (zOk_fl zn_aload (zs_aload_n (q := 0) rfl (by decide +kernel))) <|
  zA_c (zOk_fl zn_getR (zs_getR (k := 0) rfl (by decide) (by decide +kernel) rfl (by decide +kernel) zw_56)) <|
  zA_c (zOk_fl zn_iload (zs_iload_n (q := 1) rfl (by decide +kernel))) <|
  zA_c (zOk_fl zn_iload (zs_iload (by decide +kernel))) <|
  zA_c (zOk_sn zn_iast (zs_iast (by decide +kernel))) <|
  zA_c (zOk_fl zn_aload (zs_aload_n (q := 0) rfl (by decide +kernel))) <|
  zA_n
def zcl_87_2 : List (Nat × zmI) := [(64, zm_getR 67 2 0), (67, zm_iload 68 2), (68, zm_iload 70 5), (70, zm_iast 71), (71, zm_iload 73 6), (73, zm_zret)]
theorem zmc_87_2 (l : Launch) : zAll l "ChessWire$Board" prog_2_method_16_code 7 false (some .boolean) zcl_87_2 :=
  zA_c (zOk_fl zn_getR (zs_getR (k := 0) rfl (by decide) (by decide +kernel) rfl (by decide +kernel) zw_56)) <|
  zA_c (zOk_fl zn_iload (zs_iload_n (q := 2) rfl (by decide +kernel))) <|
  zA_c (zOk_fl zn_iload (zs_iload (by decide +kernel))) <|
  zA_c (zOk_sn zn_iast (zs_iast (by decide +kernel))) <|
  zA_c (zOk_fl zn_iload (zs_iload (by decide +kernel))) <|
  zA_c (zs_zret (by decide +kernel) rfl) <|
  zA_n
def zc_87 : Nat → zmI := zgetC [zcl_87_0, zcl_87_1, zcl_87_2]
theorem zmf_87 (l : Launch) : zMf l zc_87 87 := ⟨by decide +kernel, false, (fun h => by cases h), fun pc => zgetC_ok (zA2_c (zmc_87_0 l) (zA2_c (zmc_87_1 l) (zA2_c (zmc_87_2 l) (zA2_n)))) pc⟩
def zcl_88_0 : List (Nat × zmI) := [(0, zm_aload 1 0), (1, zm_getI 4 5 3), (4, zm_aload 5 0), (5, zm_getR 8 5 0), (8, zm_alen 9), (9, zm_icge 12 53), (12, zm_aload 13 0), (13, zm_getR 16 5 0), (16, zm_aload 17 0), (17, zm_getI 20 5 3), (20, zm_iload 21 1), (21, zm_iast 22), (22, zm_aload 23 0), (23, zm_getR 26 5 1), (26, zm_aload 27 0), (27, zm_getI 30 5 3), (30, zm_iload 31 2), (31, zm_iast 32)]
theorem zmc_88_0 (l : Launch) : zAll l "ChessWire$MoveList" prog_8_method_3_code 3 false (none) zcl_88_0 :=
  zA_c (zOk_fl zn_aload (zs_aload_n (q := 0) rfl (by decide +kernel))) <|
  zA_c (zOk_fl zn_getI (zs_getI (k := 3) rfl (by decide) (by decide +kernel) rfl (by decide +kernel) zw_111)) <|
  zA_c (zOk_fl zn_aload (zs_aload_n (q := 0) rfl (by decide +kernel))) <|
  zA_c (zOk_fl zn_getR (zs_getR (k := 0) rfl (by decide) (by decide +kernel) rfl (by decide +kernel) zw_108)) <|
  zA_c (zOk_fl zn_alen (zs_alen (by decide +kernel))) <|
  zA_c (zOk_fl zn_icge (zs_icge (off := 44) (by decide +kernel) (by decide))) <|
  zA_c (zOk_fl zn_aload (zs_aload_n (q := 0) rfl (by decide +kernel))) <|
  zA_c (zOk_fl zn_getR (zs_getR (k := 0) rfl (by decide) (by decide +kernel) rfl (by decide +kernel) zw_108)) <|
  zA_c (zOk_fl zn_aload (zs_aload_n (q := 0) rfl (by decide +kernel))) <|
  zA_c (zOk_fl zn_getI (zs_getI (k := 3) rfl (by decide) (by decide +kernel) rfl (by decide +kernel) zw_111)) <|
  zA_c (zOk_fl zn_iload (zs_iload_n (q := 1) rfl (by decide +kernel))) <|
  zA_c (zOk_sn zn_iast (zs_iast (by decide +kernel))) <|
  zA_c (zOk_fl zn_aload (zs_aload_n (q := 0) rfl (by decide +kernel))) <|
  zA_c (zOk_fl zn_getR (zs_getR (k := 1) rfl (by decide) (by decide +kernel) rfl (by decide +kernel) zw_109)) <|
  zA_c (zOk_fl zn_aload (zs_aload_n (q := 0) rfl (by decide +kernel))) <|
  zA_c (zOk_fl zn_getI (zs_getI (k := 3) rfl (by decide) (by decide +kernel) rfl (by decide +kernel) zw_111)) <|
  zA_c (zOk_fl zn_iload (zs_iload_n (q := 2) rfl (by decide +kernel))) <|
  zA_c (zOk_sn zn_iast (zs_iast (by decide +kernel))) <|
  zA_n
def zcl_88_1 : List (Nat × zmI) := [(32, zm_aload 33 0), (33, zm_getR 36 5 2), (36, zm_aload 37 0), (37, zm_getI 40 5 3), (40, zm_push 42 10), (42, zm_iast 43), (43, zm_aload 44 0), (44, zm_dup 45), (45, zm_getI 48 5 3), (48, zm_push 49 1), (49, zm_bin 50 (fun x y => w32 (x + y))), (50, zm_putI 53 5 3), (53, zm_vret)]
theorem zmc_88_1 (l : Launch) : zAll l "ChessWire$MoveList" prog_8_method_3_code 3 false (none) zcl_88_1 :=
  zA_c (zOk_fl zn_aload (zs_aload_n (q := 0) rfl (by decide +kernel))) <|
  zA_c (zOk_fl zn_getR (zs_getR (k := 2) rfl (by decide) (by decide +kernel) rfl (by decide +kernel) zw_110)) <|
  zA_c (zOk_fl zn_aload (zs_aload_n (q := 0) rfl (by decide +kernel))) <|
  zA_c (zOk_fl zn_getI (zs_getI (k := 3) rfl (by decide) (by decide +kernel) rfl (by decide +kernel) zw_111)) <|
  zA_c (zOk_fl zn_push (zs_bipush (n := 10) (by decide +kernel) rfl)) <|
  zA_c (zOk_sn zn_iast (zs_iast (by decide +kernel))) <|
  zA_c (zOk_fl zn_aload (zs_aload_n (q := 0) rfl (by decide +kernel))) <|
  zA_c (zOk_fl zn_dup (zs_dup (by decide +kernel))) <|
  zA_c (zOk_fl zn_getI (zs_getI (k := 3) rfl (by decide) (by decide +kernel) rfl (by decide +kernel) zw_111)) <|
  zA_c (zOk_fl zn_push (zs_iconst (n := 1) (by decide +kernel) rfl)) <|
  zA_c (zOk_fl zn_bin (zs_iadd (by decide +kernel))) <|
  zA_c (zOk_sn zn_putI (zs_putI (k := 3) rfl (by decide) (by decide +kernel) rfl rfl (by decide +kernel) zw_111)) <|
  zA_c (zs_vret (by decide +kernel) rfl) <|
  zA_n
def zc_88 : Nat → zmI := zgetC [zcl_88_0, zcl_88_1]
theorem zmf_88 (l : Launch) : zMf l zc_88 88 := ⟨by decide +kernel, false, (fun h => by cases h), fun pc => zgetC_ok (zA2_c (zmc_88_0 l) (zA2_c (zmc_88_1 l) (zA2_n))) pc⟩
def zcl_89_0 : List (Nat × zmI) := [(0, zm_push 1 0), (1, zm_istore 2 3), (2, zm_push 3 0), (3, zm_istore 5 4), (5, zm_iload 7 4), (7, zm_push 9 10), (9, zm_icge 12 60), (12, zm_iload 13 3), (13, zm_aload 14 1), (14, zm_call 17 90 1 true 5), (17, zm_icge 20 60), (20, zm_iload 21 2), (21, zm_ifeq 24 44), (24, zm_iload 25 3), (25, zm_ifle 28 44), (28, zm_iload 30 4), (30, zm_call 33 91 1 true 99)]
theorem zmc_89_0 (l : Launch) : zAll l "ChessWire$Namer" prog_9_method_4_code 5 false (none) zcl_89_0 :=
  zA_c (zOk_fl zn_push (zs_iconst (n := 0) (by decide +kernel) rfl)) <|
  zA_c (zOk_fl zn_istore (zs_istore_n (q := 3) rfl (by decide +kernel))) <|
  zA_c (zOk_fl zn_push (zs_iconst (n := 0) (by decide +kernel) rfl)) <|
  zA_c (zOk_fl zn_istore (zs_istore (by decide +kernel))) <|
  zA_c (zOk_fl zn_iload (zs_iload (by decide +kernel))) <|
  zA_c (zOk_fl zn_push (zs_bipush (n := 10) (by decide +kernel) rfl)) <|
  zA_c (zOk_fl zn_icge (zs_icge (off := 51) (by decide +kernel) (by decide))) <|
  zA_c (zOk_fl zn_iload (zs_iload_n (q := 3) rfl (by decide +kernel))) <|
  zA_c (zOk_fl zn_aload (zs_aload_n (q := 1) rfl (by decide +kernel))) <|
  zA_c (zk_V zq_90 zw_665 rfl (by decide +kernel)) <|
  zA_c (zOk_fl zn_icge (zs_icge (off := 43) (by decide +kernel) (by decide))) <|
  zA_c (zOk_fl zn_iload (zs_iload_n (q := 2) rfl (by decide +kernel))) <|
  zA_c (zOk_fl zn_ifeq (zs_ifeq (off := 23) (by decide +kernel) (by decide))) <|
  zA_c (zOk_fl zn_iload (zs_iload_n (q := 3) rfl (by decide +kernel))) <|
  zA_c (zOk_fl zn_ifle (zs_ifle (off := 19) (by decide +kernel) (by decide))) <|
  zA_c (zOk_fl zn_iload (zs_iload (by decide +kernel))) <|
  zA_c (zk_S zq_91 zw_669 (by decide +kernel)) <|
  zA_n
def zcl_89_1 : List (Nat × zmI) := [(33, zm_iload 35 4), (35, zm_push 36 1), (36, zm_bin 37 (fun x y => w32 (x - y))), (37, zm_call 40 91 1 true 99), (40, zm_icle 43 44), (43, zm_vret), (44, zm_iload 45 3), (45, zm_aload 46 0), (46, zm_iload 48 4), (48, zm_aload 49 1), (49, zm_call 52 94 3 true 6), (52, zm_bin 53 (fun x y => w32 (x + y))), (53, zm_istore 54 3), (54, zm_iinc 57 4 1), (57, zm_goto 5), (60, zm_vret)]
theorem zmc_89_1 (l : Launch) : zAll l "ChessWire$Namer" prog_9_method_4_code 5 false (none) zcl_89_1 :=
  zA_c (zOk_fl zn_iload (zs_iload (by decide +kernel))) <|
  zA_c (zOk_fl zn_push (zs_iconst (n := 1) (by decide +kernel) rfl)) <|
  zA_c (zOk_fl zn_bin (zs_isub (by decide +kernel))) <|
  zA_c (zk_S zq_91 zw_669 (by decide +kernel)) <|
  zA_c (zOk_fl zn_icle (zs_icle (off := 4) (by decide +kernel) (by decide))) <|
  zA_c (zs_vret (by decide +kernel) rfl) <|
  zA_c (zOk_fl zn_iload (zs_iload_n (q := 3) rfl (by decide +kernel))) <|
  zA_c (zOk_fl zn_aload (zs_aload_n (q := 0) rfl (by decide +kernel))) <|
  zA_c (zOk_fl zn_iload (zs_iload (by decide +kernel))) <|
  zA_c (zOk_fl zn_aload (zs_aload_n (q := 1) rfl (by decide +kernel))) <|
  zA_c (zk_V zq_94 zw_683 rfl (by decide +kernel)) <|
  zA_c (zOk_fl zn_bin (zs_iadd (by decide +kernel))) <|
  zA_c (zOk_fl zn_istore (zs_istore_n (q := 3) rfl (by decide +kernel))) <|
  zA_c (zOk_fl zn_iinc (zs_iinc rfl (by decide +kernel))) <|
  zA_c (zOk_fl zn_goto (zs_goto (off := (-52)) (by decide +kernel) (by decide))) <|
  zA_c (zs_vret (by decide +kernel) rfl) <|
  zA_n
def zc_89 : Nat → zmI := zgetC [zcl_89_0, zcl_89_1]
theorem zmf_89 (l : Launch) : zMf l zc_89 89 := ⟨by decide +kernel, false, (fun h => by cases h), fun pc => zgetC_ok (zA2_c (zmc_89_0 l) (zA2_c (zmc_89_1 l) (zA2_n))) pc⟩
def zcl_90_0 : List (Nat × zmI) := [(0, zm_aload 1 0), (1, zm_getI 4 5 3), (4, zm_iret)]
theorem zmc_90_0 (l : Launch) : zAll l "ChessWire$MoveList" prog_8_method_4_code 1 false (some .int) zcl_90_0 :=
  zA_c (zOk_fl zn_aload (zs_aload_n (q := 0) rfl (by decide +kernel))) <|
  zA_c (zOk_fl zn_getI (zs_getI (k := 3) rfl (by decide) (by decide +kernel) rfl (by decide +kernel) zw_111)) <|
  zA_c (zs_iret (by decide +kernel) rfl) <|
  zA_n
def zc_90 : Nat → zmI := zgetC [zcl_90_0]
theorem zmf_90 (l : Launch) : zMf l zc_90 90 := ⟨by decide +kernel, false, (fun h => by cases h), fun pc => zgetC_ok (zA2_c (zmc_90_0 l) (zA2_n)) pc⟩
def zcl_91_0 : List (Nat × zmI) := [(0, zm_iload 1 0), (1, zm_call 4 92 1 true 99), (4, zm_call 7 93 1 true 99), (7, zm_iret)]
theorem zmc_91_0 (l : Launch) : zAll l "ChessWire$Namer" prog_9_method_3_code 1 false (some .int) zcl_91_0 :=
  zA_c (zOk_fl zn_iload (zs_iload_n (q := 0) rfl (by decide +kernel))) <|
  zA_c (zk_S zq_92 zw_672 (by decide +kernel)) <|
  zA_c (zk_S zq_93 zw_677 (by decide +kernel)) <|
  zA_c (zs_iret (by decide +kernel) rfl) <|
  zA_n
def zc_91 : Nat → zmI := zgetC [zcl_91_0]
theorem zmf_91 (l : Launch) : zMf l zc_91 91 := ⟨by decide +kernel, false, (fun h => by cases h), fun pc => zgetC_ok (zA2_c (zmc_91_0 l) (zA2_n)) pc⟩
def zcl_92_0 : List (Nat × zmI) := [(0, zm_iload 1 0), (1, zm_iflt 4 20), (4, zm_iload 5 0), (5, zm_pushr 8 (zXB + 4)), (8, zm_alen 9), (9, zm_icge 12 20), (12, zm_pushr 15 (zXB + 4)), (15, zm_iload 16 0), (16, zm_ald 17 100), (17, zm_goto 21), (20, zm_push 21 0), (21, zm_iret)]
theorem zmc_92_0 (l : Launch) : zAll l "ChessWire$Namer" prog_9_method_2_code 1 false (some .int) zcl_92_0 :=
  zA_c (zOk_fl zn_iload (zs_iload_n (q := 0) rfl (by decide +kernel))) <|
  zA_c (zOk_fl zn_iflt (zs_iflt (off := 19) (by decide +kernel) (by decide))) <|
  zA_c (zOk_fl zn_iload (zs_iload_n (q := 0) rfl (by decide +kernel))) <|
  zA_c (zOk_fl zn_pushr (zs_table (j := 4) (by decide) (by decide +kernel) zw_675)) <|
  zA_c (zOk_fl zn_alen (zs_alen (by decide +kernel))) <|
  zA_c (zOk_fl zn_icge (zs_icge (off := 11) (by decide +kernel) (by decide))) <|
  zA_c (zOk_fl zn_pushr (zs_table (j := 4) (by decide) (by decide +kernel) zw_675)) <|
  zA_c (zOk_fl zn_iload (zs_iload_n (q := 0) rfl (by decide +kernel))) <|
  zA_c (zOk_fl zn_ald (zs_iald (by decide +kernel))) <|
  zA_c (zOk_fl zn_goto (zs_goto (off := 4) (by decide +kernel) (by decide))) <|
  zA_c (zOk_fl zn_push (zs_iconst (n := 0) (by decide +kernel) rfl)) <|
  zA_c (zs_iret (by decide +kernel) rfl) <|
  zA_n
def zc_92 : Nat → zmI := zgetC [zcl_92_0]
theorem zmf_92 (l : Launch) : zMf l zc_92 92 := ⟨by decide +kernel, false, (fun h => by cases h), fun pc => zgetC_ok (zA2_c (zmc_92_0 l) (zA2_n)) pc⟩
def zcl_93_0 : List (Nat × zmI) := [(0, zm_iload 1 0), (1, zm_iload 2 0), (2, zm_push 3 1), (3, zm_bin 4 z_ushr), (4, zm_push 7 1431655765), (7, zm_bin 8 z_and), (8, zm_bin 9 (fun x y => w32 (x - y))), (9, zm_istore 10 0), (10, zm_iload 11 0), (11, zm_push 14 858993459), (14, zm_bin 15 z_and), (15, zm_iload 16 0), (16, zm_push 17 2), (17, zm_bin 18 z_ushr), (18, zm_push 21 858993459), (21, zm_bin 22 z_and), (22, zm_bin 23 (fun x y => w32 (x + y))), (23, zm_istore 24 0), (24, zm_iload 25 0), (25, zm_iload 26 0), (26, zm_push 27 4), (27, zm_bin 28 z_ushr), (28, zm_bin 29 (fun x y => w32 (x + y))), (29, zm_push 32 252645135)]
theorem zmc_93_0 (l : Launch) : zAll l "java/lang/Integer" prog_16_method_49_code 1 false (some .int) zcl_93_0 :=
  zA_c (zOk_fl zn_iload (zs_iload_n (q := 0) rfl (by decide +kernel))) <|
  zA_c (zOk_fl zn_iload (zs_iload_n (q := 0) rfl (by decide +kernel))) <|
  zA_c (zOk_fl zn_push (zs_iconst (n := 1) (by decide +kernel) rfl)) <|
  zA_c (zOk_fl zn_bin (zs_iushr (by decide +kernel))) <|
  zA_c (zOk_fl zn_push (zs_ldcw (by decide +kernel) zw_680 rfl)) <|
  zA_c (zOk_fl zn_bin (zs_iand (by decide +kernel))) <|
  zA_c (zOk_fl zn_bin (zs_isub (by decide +kernel))) <|
  zA_c (zOk_fl zn_istore (zs_istore_n (q := 0) rfl (by decide +kernel))) <|
  zA_c (zOk_fl zn_iload (zs_iload_n (q := 0) rfl (by decide +kernel))) <|
  zA_c (zOk_fl zn_push (zs_ldcw (by decide +kernel) zw_681 rfl)) <|
  zA_c (zOk_fl zn_bin (zs_iand (by decide +kernel))) <|
  zA_c (zOk_fl zn_iload (zs_iload_n (q := 0) rfl (by decide +kernel))) <|
  zA_c (zOk_fl zn_push (zs_iconst (n := 2) (by decide +kernel) rfl)) <|
  zA_c (zOk_fl zn_bin (zs_iushr (by decide +kernel))) <|
  zA_c (zOk_fl zn_push (zs_ldcw (by decide +kernel) zw_681 rfl)) <|
  zA_c (zOk_fl zn_bin (zs_iand (by decide +kernel))) <|
  zA_c (zOk_fl zn_bin (zs_iadd (by decide +kernel))) <|
  zA_c (zOk_fl zn_istore (zs_istore_n (q := 0) rfl (by decide +kernel))) <|
  zA_c (zOk_fl zn_iload (zs_iload_n (q := 0) rfl (by decide +kernel))) <|
  zA_c (zOk_fl zn_iload (zs_iload_n (q := 0) rfl (by decide +kernel))) <|
  zA_c (zOk_fl zn_push (zs_iconst (n := 4) (by decide +kernel) rfl)) <|
  zA_c (zOk_fl zn_bin (zs_iushr (by decide +kernel))) <|
  zA_c (zOk_fl zn_bin (zs_iadd (by decide +kernel))) <|
  zA_c (zOk_fl zn_push (zs_ldcw (by decide +kernel) zw_682 rfl)) <|
  zA_n
def zcl_93_1 : List (Nat × zmI) := [(32, zm_bin 33 z_and), (33, zm_istore 34 0), (34, zm_iload 35 0), (35, zm_iload 36 0), (36, zm_push 38 8), (38, zm_bin 39 z_ushr), (39, zm_bin 40 (fun x y => w32 (x + y))), (40, zm_istore 41 0), (41, zm_iload 42 0), (42, zm_iload 43 0), (43, zm_push 45 16), (45, zm_bin 46 z_ushr), (46, zm_bin 47 (fun x y => w32 (x + y))), (47, zm_istore 48 0), (48, zm_iload 49 0), (49, zm_push 51 63), (51, zm_bin 52 z_and), (52, zm_iret)]
theorem zmc_93_1 (l : Launch) : zAll l "java/lang/Integer" prog_16_method_49_code 1 false (some .int) zcl_93_1 :=
  zA_c (zOk_fl zn_bin (zs_iand (by decide +kernel))) <|
  zA_c (zOk_fl zn_istore (zs_istore_n (q := 0) rfl (by decide +kernel))) <|
  zA_c (zOk_fl zn_iload (zs_iload_n (q := 0) rfl (by decide +kernel))) <|
  zA_c (zOk_fl zn_iload (zs_iload_n (q := 0) rfl (by decide +kernel))) <|
  zA_c (zOk_fl zn_push (zs_bipush (n := 8) (by decide +kernel) rfl)) <|
  zA_c (zOk_fl zn_bin (zs_iushr (by decide +kernel))) <|
  zA_c (zOk_fl zn_bin (zs_iadd (by decide +kernel))) <|
  zA_c (zOk_fl zn_istore (zs_istore_n (q := 0) rfl (by decide +kernel))) <|
  zA_c (zOk_fl zn_iload (zs_iload_n (q := 0) rfl (by decide +kernel))) <|
  zA_c (zOk_fl zn_iload (zs_iload_n (q := 0) rfl (by decide +kernel))) <|
  zA_c (zOk_fl zn_push (zs_bipush (n := 16) (by decide +kernel) rfl)) <|
  zA_c (zOk_fl zn_bin (zs_iushr (by decide +kernel))) <|
  zA_c (zOk_fl zn_bin (zs_iadd (by decide +kernel))) <|
  zA_c (zOk_fl zn_istore (zs_istore_n (q := 0) rfl (by decide +kernel))) <|
  zA_c (zOk_fl zn_iload (zs_iload_n (q := 0) rfl (by decide +kernel))) <|
  zA_c (zOk_fl zn_push (zs_bipush (n := 63) (by decide +kernel) rfl)) <|
  zA_c (zOk_fl zn_bin (zs_iand (by decide +kernel))) <|
  zA_c (zs_iret (by decide +kernel) rfl) <|
  zA_n
def zc_93 : Nat → zmI := zgetC [zcl_93_0, zcl_93_1]
theorem zmf_93 (l : Launch) : zMf l zc_93 93 := ⟨by decide +kernel, false, (fun h => by cases h), fun pc => zgetC_ok (zA2_c (zmc_93_0 l) (zA2_c (zmc_93_1 l) (zA2_n))) pc⟩
def zcl_94_0 : List (Nat × zmI) := [(0, zm_push 1 0), (1, zm_istore 2 3), (2, zm_iload 3 3), (3, zm_aload 4 2), (4, zm_call 7 90 1 true 5), (7, zm_icge 10 32), (10, zm_aload 11 0), (11, zm_getR 14 6 0), (14, zm_aload 15 0), (15, zm_iload 16 1), (16, zm_aload 17 2), (17, zm_iload 18 3), (18, zm_call 21 95 4 true 6), (21, zm_dup2 22), (22, zm_ald 23 100), (23, zm_push 24 1), (24, zm_bin 25 (fun x y => w32 (x + y))), (25, zm_iast 26), (26, zm_iinc 29 3 1), (29, zm_goto 2)]
theorem zmc_94_0 (l : Launch) : zAll l "ChessWire$Namer" prog_9_method_5_code 5 false (some .int) zcl_94_0 :=
  zA_c (zOk_fl zn_push (zs_iconst (n := 0) (by decide +kernel) rfl)) <|
  zA_c (zOk_fl zn_istore (zs_istore_n (q := 3) rfl (by decide +kernel))) <|
  zA_c (zOk_fl zn_iload (zs_iload_n (q := 3) rfl (by decide +kernel))) <|
  zA_c (zOk_fl zn_aload (zs_aload_n (q := 2) rfl (by decide +kernel))) <|
  zA_c (zk_V zq_90 zw_665 rfl (by decide +kernel)) <|
  zA_c (zOk_fl zn_icge (zs_icge (off := 25) (by decide +kernel) (by decide))) <|
  zA_c (zOk_fl zn_aload (zs_aload_n (q := 0) rfl (by decide +kernel))) <|
  zA_c (zOk_fl zn_getR (zs_getR (k := 0) rfl (by decide) (by decide +kernel) rfl (by decide +kernel) zw_127)) <|
  zA_c (zOk_fl zn_aload (zs_aload_n (q := 0) rfl (by decide +kernel))) <|
  zA_c (zOk_fl zn_iload (zs_iload_n (q := 1) rfl (by decide +kernel))) <|
  zA_c (zOk_fl zn_aload (zs_aload_n (q := 2) rfl (by decide +kernel))) <|
  zA_c (zOk_fl zn_iload (zs_iload_n (q := 3) rfl (by decide +kernel))) <|
  zA_c (zk_V zq_95 zw_687 rfl (by decide +kernel)) <|
  zA_c (zOk_fl zn_dup2 (zs_dup2 (by decide +kernel))) <|
  zA_c (zOk_fl zn_ald (zs_iald (by decide +kernel))) <|
  zA_c (zOk_fl zn_push (zs_iconst (n := 1) (by decide +kernel) rfl)) <|
  zA_c (zOk_fl zn_bin (zs_iadd (by decide +kernel))) <|
  zA_c (zOk_sn zn_iast (zs_iast (by decide +kernel))) <|
  zA_c (zOk_fl zn_iinc (zs_iinc rfl (by decide +kernel))) <|
  zA_c (zOk_fl zn_goto (zs_goto (off := (-27)) (by decide +kernel) (by decide))) <|
  zA_n
def zcl_94_1 : List (Nat × zmI) := [(32, zm_push 33 0), (33, zm_istore 34 3), (34, zm_push 35 0), (35, zm_istore 37 4), (37, zm_iload 39 4), (39, zm_aload 40 2), (40, zm_call 43 90 1 true 5), (43, zm_icge 46 90), (46, zm_aload 47 2), (47, zm_iload 49 4), (49, zm_call 52 98 2 true 5), (52, zm_push 54 10), (54, zm_icne 57 84), (57, zm_aload 58 0), (58, zm_getR 61 6 0), (61, zm_aload 62 0), (62, zm_iload 63 1), (63, zm_aload 64 2)]
theorem zmc_94_1 (l : Launch) : zAll l "ChessWire$Namer" prog_9_method_5_code 5 false (some .int) zcl_94_1 :=
  zA_c (zOk_fl zn_push (zs_iconst (n := 0) (by decide +kernel) rfl)) <|
  zA_c (zOk_fl zn_istore (zs_istore_n (q := 3) rfl (by decide +kernel))) <|
  zA_c (zOk_fl zn_push (zs_iconst (n := 0) (by decide +kernel) rfl)) <|
  zA_c (zOk_fl zn_istore (zs_istore (by decide +kernel))) <|
  zA_c (zOk_fl zn_iload (zs_iload (by decide +kernel))) <|
  zA_c (zOk_fl zn_aload (zs_aload_n (q := 2) rfl (by decide +kernel))) <|
  zA_c (zk_V zq_90 zw_665 rfl (by decide +kernel)) <|
  zA_c (zOk_fl zn_icge (zs_icge (off := 47) (by decide +kernel) (by decide))) <|
  zA_c (zOk_fl zn_aload (zs_aload_n (q := 2) rfl (by decide +kernel))) <|
  zA_c (zOk_fl zn_iload (zs_iload (by decide +kernel))) <|
  zA_c (zk_V zq_98 zw_700 rfl (by decide +kernel)) <|
  zA_c (zOk_fl zn_push (zs_bipush (n := 10) (by decide +kernel) rfl)) <|
  zA_c (zOk_fl zn_icne (zs_icne (off := 30) (by decide +kernel) (by decide))) <|
  zA_c (zOk_fl zn_aload (zs_aload_n (q := 0) rfl (by decide +kernel))) <|
  zA_c (zOk_fl zn_getR (zs_getR (k := 0) rfl (by decide) (by decide +kernel) rfl (by decide +kernel) zw_127)) <|
  zA_c (zOk_fl zn_aload (zs_aload_n (q := 0) rfl (by decide +kernel))) <|
  zA_c (zOk_fl zn_iload (zs_iload_n (q := 1) rfl (by decide +kernel))) <|
  zA_c (zOk_fl zn_aload (zs_aload_n (q := 2) rfl (by decide +kernel))) <|
  zA_n
def zcl_94_2 : List (Nat × zmI) := [(64, zm_iload 66 4), (66, zm_call 69 95 4 true 6), (69, zm_ald 70 100), (70, zm_push 71 1), (71, zm_icne 74 84), (74, zm_aload 75 2), (75, zm_iload 77 4), (77, zm_iload 78 1), (78, zm_call 81 99 3 false 5), (81, zm_iinc 84 3 1), (84, zm_iinc 87 4 1), (87, zm_goto 37), (90, zm_push 91 0), (91, zm_istore 93 4), (93, zm_iload 95 4), (95, zm_aload 96 2)]
theorem zmc_94_2 (l : Launch) : zAll l "ChessWire$Namer" prog_9_method_5_code 5 false (some .int) zcl_94_2 :=
  zA_c (zOk_fl zn_iload (zs_iload (by decide +kernel))) <|
  zA_c (zk_V zq_95 zw_687 rfl (by decide +kernel)) <|
  zA_c (zOk_fl zn_ald (zs_iald (by decide +kernel))) <|
  zA_c (zOk_fl zn_push (zs_iconst (n := 1) (by decide +kernel) rfl)) <|
  zA_c (zOk_fl zn_icne (zs_icne (off := 13) (by decide +kernel) (by decide))) <|
  zA_c (zOk_fl zn_aload (zs_aload_n (q := 2) rfl (by decide +kernel))) <|
  zA_c (zOk_fl zn_iload (zs_iload (by decide +kernel))) <|
  zA_c (zOk_fl zn_iload (zs_iload_n (q := 1) rfl (by decide +kernel))) <|
  zA_c (zk_V zq_99 zw_704 rfl (by decide +kernel)) <|
  zA_c (zOk_fl zn_iinc (zs_iinc rfl (by decide +kernel))) <|
  zA_c (zOk_fl zn_iinc (zs_iinc rfl (by decide +kernel))) <|
  zA_c (zOk_fl zn_goto (zs_goto (off := (-50)) (by decide +kernel) (by decide))) <|
  zA_c (zOk_fl zn_push (zs_iconst (n := 0) (by decide +kernel) rfl)) <|
  zA_c (zOk_fl zn_istore (zs_istore (by decide +kernel))) <|
  zA_c (zOk_fl zn_iload (zs_iload (by decide +kernel))) <|
  zA_c (zOk_fl zn_aload (zs_aload_n (q := 2) rfl (by decide +kernel))) <|
  zA_n
def zcl_94_3 : List (Nat × zmI) := [(96, zm_call 99 90 1 true 5), (99, zm_icge 102 122), (102, zm_aload 103 0), (103, zm_getR 106 6 0), (106, zm_aload 107 0), (107, zm_iload 108 1), (108, zm_aload 109 2), (109, zm_iload 111 4), (111, zm_call 114 95 4 true 6), (114, zm_push 115 0), (115, zm_iast 116), (116, zm_iinc 119 4 1), (119, zm_goto 93), (122, zm_iload 123 3), (123, zm_iret)]
theorem zmc_94_3 (l : Launch) : zAll l "ChessWire$Namer" prog_9_method_5_code 5 false (some .int) zcl_94_3 :=
  zA_c (zk_V zq_90 zw_665 rfl (by decide +kernel)) <|
  zA_c (zOk_fl zn_icge (zs_icge (off := 23) (by decide +kernel) (by decide))) <|
  zA_c (zOk_fl zn_aload (zs_aload_n (q := 0) rfl (by decide +kernel))) <|
  zA_c (zOk_fl zn_getR (zs_getR (k := 0) rfl (by decide) (by decide +kernel) rfl (by decide +kernel) zw_127)) <|
  zA_c (zOk_fl zn_aload (zs_aload_n (q := 0) rfl (by decide +kernel))) <|
  zA_c (zOk_fl zn_iload (zs_iload_n (q := 1) rfl (by decide +kernel))) <|
  zA_c (zOk_fl zn_aload (zs_aload_n (q := 2) rfl (by decide +kernel))) <|
  zA_c (zOk_fl zn_iload (zs_iload (by decide +kernel))) <|
  zA_c (zk_V zq_95 zw_687 rfl (by decide +kernel)) <|
  zA_c (zOk_fl zn_push (zs_iconst (n := 0) (by decide +kernel) rfl)) <|
  zA_c (zOk_sn zn_iast (zs_iast (by decide +kernel))) <|
  zA_c (zOk_fl zn_iinc (zs_iinc rfl (by decide +kernel))) <|
  zA_c (zOk_fl zn_goto (zs_goto (off := (-26)) (by decide +kernel) (by decide))) <|
  zA_c (zOk_fl zn_iload (zs_iload_n (q := 3) rfl (by decide +kernel))) <|
  zA_c (zs_iret (by decide +kernel) rfl) <|
  zA_n
def zc_94 : Nat → zmI := zgetC [zcl_94_0, zcl_94_1, zcl_94_2, zcl_94_3]
theorem zmf_94 (l : Launch) : zMf l zc_94 94 := ⟨by decide +kernel, false, (fun h => by cases h), fun pc => zgetC_ok (zA2_c (zmc_94_0 l) (zA2_c (zmc_94_1 l) (zA2_c (zmc_94_2 l) (zA2_c (zmc_94_3 l) (zA2_n))))) pc⟩
def zcl_95_0 : List (Nat × zmI) := [(0, zm_iload 1 1), (1, zm_call 4 92 1 true 99), (4, zm_aload 5 2), (5, zm_iload 6 3), (6, zm_call 9 96 2 true 5), (9, zm_aload 10 2), (10, zm_iload 11 3), (11, zm_call 14 97 2 true 5), (14, zm_call 17 86 3 true 99), (17, zm_istore 19 4), (19, zm_iload 21 4), (21, zm_iflt 24 39), (24, zm_iload 26 4), (26, zm_aload 27 0), (27, zm_getR 30 6 0), (30, zm_alen 31), (31, zm_icge 34 39)]
theorem zmc_95_0 (l : Launch) : zAll l "ChessWire$Namer" prog_9_method_6_code 5 false (some .int) zcl_95_0 :=
  zA_c (zOk_fl zn_iload (zs_iload_n (q := 1) rfl (by decide +kernel))) <|
  zA_c (zk_S zq_92 zw_672 (by decide +kernel)) <|
  zA_c (zOk_fl zn_aload (zs_aload_n (q := 2) rfl (by decide +kernel))) <|
  zA_c (zOk_fl zn_iload (zs_iload_n (q := 3) rfl (by decide +kernel))) <|
  zA_c (zk_V zq_96 zw_691 rfl (by decide +kernel)) <|
  zA_c (zOk_fl zn_aload (zs_aload_n (q := 2) rfl (by decide +kernel))) <|
  zA_c (zOk_fl zn_iload (zs_iload_n (q := 3) rfl (by decide +kernel))) <|
  zA_c (zk_V zq_97 zw_695 rfl (by decide +kernel)) <|
  zA_c (zk_S zq_86 zw_699 (by decide +kernel)) <|
  zA_c (zOk_fl zn_istore (zs_istore (by decide +kernel))) <|
  zA_c (zOk_fl zn_iload (zs_iload (by decide +kernel))) <|
  zA_c (zOk_fl zn_iflt (zs_iflt (off := 18) (by decide +kernel) (by decide))) <|
  zA_c (zOk_fl zn_iload (zs_iload (by decide +kernel))) <|
  zA_c (zOk_fl zn_aload (zs_aload_n (q := 0) rfl (by decide +kernel))) <|
  zA_c (zOk_fl zn_getR (zs_getR (k := 0) rfl (by decide) (by decide +kernel) rfl (by decide +kernel) zw_127)) <|
  zA_c (zOk_fl zn_alen (zs_alen (by decide +kernel))) <|
  zA_c (zOk_fl zn_icge (zs_icge (off := 8) (by decide +kernel) (by decide))) <|
  zA_n
def zcl_95_1 : List (Nat × zmI) := [(34, zm_iload 36 4), (36, zm_goto 40), (39, zm_push 40 0), (40, zm_iret)]
theorem zmc_95_1 (l : Launch) : zAll l "ChessWire$Namer" prog_9_method_6_code 5 false (some .int) zcl_95_1 :=
  zA_c (zOk_fl zn_iload (zs_iload (by decide +kernel))) <|
  zA_c (zOk_fl zn_goto (zs_goto (off := 4) (by decide +kernel) (by decide))) <|
  zA_c (zOk_fl zn_push (zs_iconst (n := 0) (by decide +kernel) rfl)) <|
  zA_c (zs_iret (by decide +kernel) rfl) <|
  zA_n
def zc_95 : Nat → zmI := zgetC [zcl_95_0, zcl_95_1]
theorem zmf_95 (l : Launch) : zMf l zc_95 95 := ⟨by decide +kernel, false, (fun h => by cases h), fun pc => zgetC_ok (zA2_c (zmc_95_0 l) (zA2_c (zmc_95_1 l) (zA2_n))) pc⟩
def zcl_96_0 : List (Nat × zmI) := [(0, zm_iload 1 1), (1, zm_iflt 4 21), (4, zm_iload 5 1), (5, zm_aload 6 0), (6, zm_getI 9 5 3), (9, zm_icge 12 21), (12, zm_aload 13 0), (13, zm_getR 16 5 1), (16, zm_iload 17 1), (17, zm_ald 18 100), (18, zm_goto 22), (21, zm_push 22 0), (22, zm_iret)]
theorem zmc_96_0 (l : Launch) : zAll l "ChessWire$MoveList" prog_8_method_6_code 2 false (some .int) zcl_96_0 :=
  zA_c (zOk_fl zn_iload (zs_iload_n (q := 1) rfl (by decide +kernel))) <|
  zA_c (zOk_fl zn_iflt (zs_iflt (off := 20) (by decide +kernel) (by decide))) <|
  zA_c (zOk_fl zn_iload (zs_iload_n (q := 1) rfl (by decide +kernel))) <|
  zA_c (zOk_fl zn_aload (zs_aload_n (q := 0) rfl (by decide +kernel))) <|
  zA_c (zOk_fl zn_getI (zs_getI (k := 3) rfl (by decide) (by decide +kernel) rfl (by decide +kernel) zw_111)) <|
  zA_c (zOk_fl zn_icge (zs_icge (off := 12) (by decide +kernel) (by decide))) <|
  zA_c (zOk_fl zn_aload (zs_aload_n (q := 0) rfl (by decide +kernel))) <|
  zA_c (zOk_fl zn_getR (zs_getR (k := 1) rfl (by decide) (by decide +kernel) rfl (by decide +kernel) zw_109)) <|
  zA_c (zOk_fl zn_iload (zs_iload_n (q := 1) rfl (by decide +kernel))) <|
  zA_c (zOk_fl zn_ald (zs_iald (by decide +kernel))) <|
  zA_c (zOk_fl zn_goto (zs_goto (off := 4) (by decide +kernel) (by decide))) <|
  zA_c (zOk_fl zn_push (zs_iconst (n := 0) (by decide +kernel) rfl)) <|
  zA_c (zs_iret (by decide +kernel) rfl) <|
  zA_n
def zc_96 : Nat → zmI := zgetC [zcl_96_0]
theorem zmf_96 (l : Launch) : zMf l zc_96 96 := ⟨by decide +kernel, false, (fun h => by cases h), fun pc => zgetC_ok (zA2_c (zmc_96_0 l) (zA2_n)) pc⟩
def zcl_97_0 : List (Nat × zmI) := [(0, zm_iload 1 1), (1, zm_iflt 4 21), (4, zm_iload 5 1), (5, zm_aload 6 0), (6, zm_getI 9 5 3), (9, zm_icge 12 21), (12, zm_aload 13 0), (13, zm_getR 16 5 0), (16, zm_iload 17 1), (17, zm_ald 18 100), (18, zm_goto 22), (21, zm_push 22 (-1)), (22, zm_iret)]
theorem zmc_97_0 (l : Launch) : zAll l "ChessWire$MoveList" prog_8_method_5_code 2 false (some .int) zcl_97_0 :=
  zA_c (zOk_fl zn_iload (zs_iload_n (q := 1) rfl (by decide +kernel))) <|
  zA_c (zOk_fl zn_iflt (zs_iflt (off := 20) (by decide +kernel) (by decide))) <|
  zA_c (zOk_fl zn_iload (zs_iload_n (q := 1) rfl (by decide +kernel))) <|
  zA_c (zOk_fl zn_aload (zs_aload_n (q := 0) rfl (by decide +kernel))) <|
  zA_c (zOk_fl zn_getI (zs_getI (k := 3) rfl (by decide) (by decide +kernel) rfl (by decide +kernel) zw_111)) <|
  zA_c (zOk_fl zn_icge (zs_icge (off := 12) (by decide +kernel) (by decide))) <|
  zA_c (zOk_fl zn_aload (zs_aload_n (q := 0) rfl (by decide +kernel))) <|
  zA_c (zOk_fl zn_getR (zs_getR (k := 0) rfl (by decide) (by decide +kernel) rfl (by decide +kernel) zw_108)) <|
  zA_c (zOk_fl zn_iload (zs_iload_n (q := 1) rfl (by decide +kernel))) <|
  zA_c (zOk_fl zn_ald (zs_iald (by decide +kernel))) <|
  zA_c (zOk_fl zn_goto (zs_goto (off := 4) (by decide +kernel) (by decide))) <|
  zA_c (zOk_fl zn_push (zs_iconst (n := (-1)) (by decide +kernel) rfl)) <|
  zA_c (zs_iret (by decide +kernel) rfl) <|
  zA_n
def zc_97 : Nat → zmI := zgetC [zcl_97_0]
theorem zmf_97 (l : Launch) : zMf l zc_97 97 := ⟨by decide +kernel, false, (fun h => by cases h), fun pc => zgetC_ok (zA2_c (zmc_97_0 l) (zA2_n)) pc⟩
def zcl_98_0 : List (Nat × zmI) := [(0, zm_iload 1 1), (1, zm_iflt 4 21), (4, zm_iload 5 1), (5, zm_aload 6 0), (6, zm_getI 9 5 3), (9, zm_icge 12 21), (12, zm_aload 13 0), (13, zm_getR 16 5 2), (16, zm_iload 17 1), (17, zm_ald 18 100), (18, zm_goto 23), (21, zm_push 23 10), (23, zm_iret)]
theorem zmc_98_0 (l : Launch) : zAll l "ChessWire$MoveList" prog_8_method_7_code 2 false (some .int) zcl_98_0 :=
  zA_c (zOk_fl zn_iload (zs_iload_n (q := 1) rfl (by decide +kernel))) <|
  zA_c (zOk_fl zn_iflt (zs_iflt (off := 20) (by decide +kernel) (by decide))) <|
  zA_c (zOk_fl zn_iload (zs_iload_n (q := 1) rfl (by decide +kernel))) <|
  zA_c (zOk_fl zn_aload (zs_aload_n (q := 0) rfl (by decide +kernel))) <|
  zA_c (zOk_fl zn_getI (zs_getI (k := 3) rfl (by decide) (by decide +kernel) rfl (by decide +kernel) zw_111)) <|
  zA_c (zOk_fl zn_icge (zs_icge (off := 12) (by decide +kernel) (by decide))) <|
  zA_c (zOk_fl zn_aload (zs_aload_n (q := 0) rfl (by decide +kernel))) <|
  zA_c (zOk_fl zn_getR (zs_getR (k := 2) rfl (by decide) (by decide +kernel) rfl (by decide +kernel) zw_110)) <|
  zA_c (zOk_fl zn_iload (zs_iload_n (q := 1) rfl (by decide +kernel))) <|
  zA_c (zOk_fl zn_ald (zs_iald (by decide +kernel))) <|
  zA_c (zOk_fl zn_goto (zs_goto (off := 5) (by decide +kernel) (by decide))) <|
  zA_c (zOk_fl zn_push (zs_bipush (n := 10) (by decide +kernel) rfl)) <|
  zA_c (zs_iret (by decide +kernel) rfl) <|
  zA_n
def zc_98 : Nat → zmI := zgetC [zcl_98_0]
theorem zmf_98 (l : Launch) : zMf l zc_98 98 := ⟨by decide +kernel, false, (fun h => by cases h), fun pc => zgetC_ok (zA2_c (zmc_98_0 l) (zA2_n)) pc⟩
def zcl_99_0 : List (Nat × zmI) := [(0, zm_iload 1 1), (1, zm_iflt 4 19), (4, zm_iload 5 1), (5, zm_aload 6 0), (6, zm_getI 9 5 3), (9, zm_icge 12 19), (12, zm_aload 13 0), (13, zm_getR 16 5 2), (16, zm_iload 17 1), (17, zm_iload 18 2), (18, zm_iast 19), (19, zm_vret)]
theorem zmc_99_0 (l : Launch) : zAll l "ChessWire$MoveList" prog_8_method_8_code 3 false (none) zcl_99_0 :=
  zA_c (zOk_fl zn_iload (zs_iload_n (q := 1) rfl (by decide +kernel))) <|
  zA_c (zOk_fl zn_iflt (zs_iflt (off := 18) (by decide +kernel) (by decide))) <|
  zA_c (zOk_fl zn_iload (zs_iload_n (q := 1) rfl (by decide +kernel))) <|
  zA_c (zOk_fl zn_aload (zs_aload_n (q := 0) rfl (by decide +kernel))) <|
  zA_c (zOk_fl zn_getI (zs_getI (k := 3) rfl (by decide) (by decide +kernel) rfl (by decide +kernel) zw_111)) <|
  zA_c (zOk_fl zn_icge (zs_icge (off := 10) (by decide +kernel) (by decide))) <|
  zA_c (zOk_fl zn_aload (zs_aload_n (q := 0) rfl (by decide +kernel))) <|
  zA_c (zOk_fl zn_getR (zs_getR (k := 2) rfl (by decide) (by decide +kernel) rfl (by decide +kernel) zw_110)) <|
  zA_c (zOk_fl zn_iload (zs_iload_n (q := 1) rfl (by decide +kernel))) <|
  zA_c (zOk_fl zn_iload (zs_iload_n (q := 2) rfl (by decide +kernel))) <|
  zA_c (zOk_sn zn_iast (zs_iast (by decide +kernel))) <|
  zA_c (zs_vret (by decide +kernel) rfl) <|
  zA_n
def zc_99 : Nat → zmI := zgetC [zcl_99_0]
theorem zmf_99 (l : Launch) : zMf l zc_99 99 := ⟨by decide +kernel, false, (fun h => by cases h), fun pc => zgetC_ok (zA2_c (zmc_99_0 l) (zA2_n)) pc⟩
def zcl_100_0 : List (Nat × zmI) := [(0, zm_iload 1 1), (1, zm_call 4 101 1 true 99), (4, zm_ifeq 7 10), (7, zm_push 9 (-2)), (9, zm_iret), (10, zm_aload 11 0), (11, zm_iload 12 1), (12, zm_call 15 102 2 true 0), (15, zm_push 16 (-1)), (16, zm_icne 19 23), (19, zm_push 20 0), (20, zm_goto 24), (23, zm_push 24 1), (24, zm_iret)]
theorem zmc_100_0 (l : Launch) : zAll l "ChessWire" prog_1_method_8_code 2 false (some .int) zcl_100_0 :=
  zA_c (zOk_fl zn_iload (zs_iload_n (q := 1) rfl (by decide +kernel))) <|
  zA_c (zk_S zq_101 zw_714 (by decide +kernel)) <|
  zA_c (zOk_fl zn_ifeq (zs_ifeq (off := 6) (by decide +kernel) (by decide))) <|
  zA_c (zOk_fl zn_push (zs_bipush (n := (-2)) (by decide +kernel) rfl)) <|
  zA_c (zs_iret (by decide +kernel) rfl) <|
  zA_c (zOk_fl zn_aload (zs_aload_n (q := 0) rfl (by decide +kernel))) <|
  zA_c (zOk_fl zn_iload (zs_iload_n (q := 1) rfl (by decide +kernel))) <|
  zA_c (zk_V zq_102 zw_717 rfl (by decide +kernel)) <|
  zA_c (zOk_fl zn_push (zs_iconst (n := (-1)) (by decide +kernel) rfl)) <|
  zA_c (zOk_fl zn_icne (zs_icne (off := 7) (by decide +kernel) (by decide))) <|
  zA_c (zOk_fl zn_push (zs_iconst (n := 0) (by decide +kernel) rfl)) <|
  zA_c (zOk_fl zn_goto (zs_goto (off := 4) (by decide +kernel) (by decide))) <|
  zA_c (zOk_fl zn_push (zs_iconst (n := 1) (by decide +kernel) rfl)) <|
  zA_c (zs_iret (by decide +kernel) rfl) <|
  zA_n
def zc_100 : Nat → zmI := zgetC [zcl_100_0]
theorem zmf_100 (l : Launch) : zMf l zc_100 100 := ⟨by decide +kernel, false, (fun h => by cases h), fun pc => zgetC_ok (zA2_c (zmc_100_0 l) (zA2_n)) pc⟩
def zcl_101_0 : List (Nat × zmI) := [(0, zm_iload 1 0), (1, zm_iflt 4 11), (4, zm_iload 5 0), (5, zm_push 8 4095), (8, zm_icle 11 15), (11, zm_push 12 1), (12, zm_goto 16), (15, zm_push 16 0), (16, zm_zret)]
theorem zmc_101_0 (l : Launch) : zAll l "ChessWire" prog_1_method_37_code 1 false (some .boolean) zcl_101_0 :=
  zA_c (zOk_fl zn_iload (zs_iload_n (q := 0) rfl (by decide +kernel))) <|
  zA_c (zOk_fl zn_iflt (zs_iflt (off := 10) (by decide +kernel) (by decide))) <|
  zA_c (zOk_fl zn_iload (zs_iload_n (q := 0) rfl (by decide +kernel))) <|
  zA_c (zOk_fl zn_push (zs_sipush (n := 4095) (by decide +kernel) rfl)) <|
  zA_c (zOk_fl zn_icle (zs_icle (off := 7) (by decide +kernel) (by decide))) <|
  zA_c (zOk_fl zn_push (zs_iconst (n := 1) (by decide +kernel) rfl)) <|
  zA_c (zOk_fl zn_goto (zs_goto (off := 4) (by decide +kernel) (by decide))) <|
  zA_c (zOk_fl zn_push (zs_iconst (n := 0) (by decide +kernel) rfl)) <|
  zA_c (zs_zret (by decide +kernel) rfl) <|
  zA_n
def zc_101 : Nat → zmI := zgetC [zcl_101_0]
theorem zmf_101 (l : Launch) : zMf l zc_101 101 := ⟨by decide +kernel, false, (fun h => by cases h), fun pc => zgetC_ok (zA2_c (zmc_101_0 l) (zA2_n)) pc⟩
def zcl_102_0 : List (Nat × zmI) := [(0, zm_aload 1 0), (1, zm_call 4 74 1 false 0), (4, zm_aload 5 0), (5, zm_getR 8 0 5), (8, zm_iload 9 1), (9, zm_call 12 103 2 true 5), (12, zm_iret)]
theorem zmc_102_0 (l : Launch) : zAll l "ChessWire" prog_1_method_45_code 2 false (some .int) zcl_102_0 :=
  zA_c (zOk_fl zn_aload (zs_aload_n (q := 0) rfl (by decide +kernel))) <|
  zA_c (zk_V zq_74 zw_593 rfl (by decide +kernel)) <|
  zA_c (zOk_fl zn_aload (zs_aload_n (q := 0) rfl (by decide +kernel))) <|
  zA_c (zOk_fl zn_getR (zs_getR (k := 5) rfl (by decide) (by decide +kernel) rfl (by decide +kernel) zw_308)) <|
  zA_c (zOk_fl zn_iload (zs_iload_n (q := 1) rfl (by decide +kernel))) <|
  zA_c (zk_V zq_103 zw_721 rfl (by decide +kernel)) <|
  zA_c (zs_iret (by decide +kernel) rfl) <|
  zA_n
def zc_102 : Nat → zmI := zgetC [zcl_102_0]
theorem zmf_102 (l : Launch) : zMf l zc_102 102 := ⟨by decide +kernel, false, (fun h => by cases h), fun pc => zgetC_ok (zA2_c (zmc_102_0 l) (zA2_n)) pc⟩
def zcl_103_0 : List (Nat × zmI) := [(0, zm_push 1 0), (1, zm_istore 2 2), (2, zm_iload 3 2), (3, zm_aload 4 0), (4, zm_getI 7 5 3), (7, zm_icge 10 28), (10, zm_aload 11 0), (11, zm_getR 14 5 0), (14, zm_iload 15 2), (15, zm_ald 16 100), (16, zm_iload 17 1), (17, zm_icne 20 22), (20, zm_iload 21 2), (21, zm_iret), (22, zm_iinc 25 2 1), (25, zm_goto 2), (28, zm_push 29 (-1)), (29, zm_iret)]
theorem zmc_103_0 (l : Launch) : zAll l "ChessWire$MoveList" prog_8_method_9_code 3 false (some .int) zcl_103_0 :=
  zA_c (zOk_fl zn_push (zs_iconst (n := 0) (by decide +kernel) rfl)) <|
  zA_c (zOk_fl zn_istore (zs_istore_n (q := 2) rfl (by decide +kernel))) <|
  zA_c (zOk_fl zn_iload (zs_iload_n (q := 2) rfl (by decide +kernel))) <|
  zA_c (zOk_fl zn_aload (zs_aload_n (q := 0) rfl (by decide +kernel))) <|
  zA_c (zOk_fl zn_getI (zs_getI (k := 3) rfl (by decide) (by decide +kernel) rfl (by decide +kernel) zw_111)) <|
  zA_c (zOk_fl zn_icge (zs_icge (off := 21) (by decide +kernel) (by decide))) <|
  zA_c (zOk_fl zn_aload (zs_aload_n (q := 0) rfl (by decide +kernel))) <|
  zA_c (zOk_fl zn_getR (zs_getR (k := 0) rfl (by decide) (by decide +kernel) rfl (by decide +kernel) zw_108)) <|
  zA_c (zOk_fl zn_iload (zs_iload_n (q := 2) rfl (by decide +kernel))) <|
  zA_c (zOk_fl zn_ald (zs_iald (by decide +kernel))) <|
  zA_c (zOk_fl zn_iload (zs_iload_n (q := 1) rfl (by decide +kernel))) <|
  zA_c (zOk_fl zn_icne (zs_icne (off := 5) (by decide +kernel) (by decide))) <|
  zA_c (zOk_fl zn_iload (zs_iload_n (q := 2) rfl (by decide +kernel))) <|
  zA_c (zs_iret (by decide +kernel) rfl) <|
  zA_c (zOk_fl zn_iinc (zs_iinc rfl (by decide +kernel))) <|
  zA_c (zOk_fl zn_goto (zs_goto (off := (-23)) (by decide +kernel) (by decide))) <|
  zA_c (zOk_fl zn_push (zs_iconst (n := (-1)) (by decide +kernel) rfl)) <|
  zA_c (zs_iret (by decide +kernel) rfl) <|
  zA_n
def zc_103 : Nat → zmI := zgetC [zcl_103_0]
theorem zmf_103 (l : Launch) : zMf l zc_103 103 := ⟨by decide +kernel, false, (fun h => by cases h), fun pc => zgetC_ok (zA2_c (zmc_103_0 l) (zA2_n)) pc⟩
def zcl_104_0 : List (Nat × zmI) := [(0, zm_aload 1 0), (1, zm_call 4 74 1 false 0), (4, zm_aload 5 0), (5, zm_getR 8 0 5), (8, zm_call 11 90 1 true 5), (11, zm_ifne 14 18), (14, zm_push 15 1), (15, zm_goto 19), (18, zm_push 19 0), (19, zm_istore 20 1), (20, zm_aload 21 0), (21, zm_getR 24 0 1), (24, zm_call 27 105 1 true 2), (27, zm_ifeq 30 40), (30, zm_iload 31 1), (31, zm_ifeq 34 38)]
theorem zmc_104_0 (l : Launch) : zAll l "ChessWire" prog_1_method_9_code 2 false (some .int) zcl_104_0 :=
  zA_c (zOk_fl zn_aload (zs_aload_n (q := 0) rfl (by decide +kernel))) <|
  zA_c (zk_V zq_74 zw_593 rfl (by decide +kernel)) <|
  zA_c (zOk_fl zn_aload (zs_aload_n (q := 0) rfl (by decide +kernel))) <|
  zA_c (zOk_fl zn_getR (zs_getR (k := 5) rfl (by decide) (by decide +kernel) rfl (by decide +kernel) zw_308)) <|
  zA_c (zk_V zq_90 zw_708 rfl (by decide +kernel)) <|
  zA_c (zOk_fl zn_ifne (zs_ifne (off := 7) (by decide +kernel) (by decide))) <|
  zA_c (zOk_fl zn_push (zs_iconst (n := 1) (by decide +kernel) rfl)) <|
  zA_c (zOk_fl zn_goto (zs_goto (off := 4) (by decide +kernel) (by decide))) <|
  zA_c (zOk_fl zn_push (zs_iconst (n := 0) (by decide +kernel) rfl)) <|
  zA_c (zOk_fl zn_istore (zs_istore_n (q := 1) rfl (by decide +kernel))) <|
  zA_c (zOk_fl zn_aload (zs_aload_n (q := 0) rfl (by decide +kernel))) <|
  zA_c (zOk_fl zn_getR (zs_getR (k := 1) rfl (by decide) (by decide +kernel) rfl (by decide +kernel) zw_304)) <|
  zA_c (zk_V zq_105 zw_729 rfl (by decide +kernel)) <|
  zA_c (zOk_fl zn_ifeq (zs_ifeq (off := 13) (by decide +kernel) (by decide))) <|
  zA_c (zOk_fl zn_iload (zs_iload_n (q := 1) rfl (by decide +kernel))) <|
  zA_c (zOk_fl zn_ifeq (zs_ifeq (off := 7) (by decide +kernel) (by decide))) <|
  zA_n
def zcl_104_1 : List (Nat × zmI) := [(34, zm_push 35 2), (35, zm_goto 39), (38, zm_push 39 1), (39, zm_iret), (40, zm_iload 41 1), (41, zm_ifeq 44 48), (44, zm_push 45 3), (45, zm_goto 49), (48, zm_push 49 0), (49, zm_iret)]
theorem zmc_104_1 (l : Launch) : zAll l "ChessWire" prog_1_method_9_code 2 false (some .int) zcl_104_1 :=
  zA_c (zOk_fl zn_push (zs_iconst (n := 2) (by decide +kernel) rfl)) <|
  zA_c (zOk_fl zn_goto (zs_goto (off := 4) (by decide +kernel) (by decide))) <|
  zA_c (zOk_fl zn_push (zs_iconst (n := 1) (by decide +kernel) rfl)) <|
  zA_c (zs_iret (by decide +kernel) rfl) <|
  zA_c (zOk_fl zn_iload (zs_iload_n (q := 1) rfl (by decide +kernel))) <|
  zA_c (zOk_fl zn_ifeq (zs_ifeq (off := 7) (by decide +kernel) (by decide))) <|
  zA_c (zOk_fl zn_push (zs_iconst (n := 3) (by decide +kernel) rfl)) <|
  zA_c (zOk_fl zn_goto (zs_goto (off := 4) (by decide +kernel) (by decide))) <|
  zA_c (zOk_fl zn_push (zs_iconst (n := 0) (by decide +kernel) rfl)) <|
  zA_c (zs_iret (by decide +kernel) rfl) <|
  zA_n
def zc_104 : Nat → zmI := zgetC [zcl_104_0, zcl_104_1]
theorem zmf_104 (l : Launch) : zMf l zc_104 104 := ⟨by decide +kernel, false, (fun h => by cases h), fun pc => zgetC_ok (zA2_c (zmc_104_0 l) (zA2_c (zmc_104_1 l) (zA2_n))) pc⟩
def zcl_105_0 : List (Nat × zmI) := [(0, zm_aload 1 0), (1, zm_getI 4 2 1), (4, zm_ifne 7 14), (7, zm_aload 8 0), (8, zm_getI 11 2 2), (11, zm_goto 18), (14, zm_aload 15 0), (15, zm_getI 18 2 3), (18, zm_istore 19 1), (19, zm_iload 20 1), (20, zm_push 21 (-1)), (21, zm_iceq 24 36), (24, zm_aload 25 0), (25, zm_iload 26 1), (26, zm_call 29 77 2 true 2), (29, zm_ifeq 32 36)]
theorem zmc_105_0 (l : Launch) : zAll l "ChessWire$Board" prog_2_method_12_code 2 false (some .boolean) zcl_105_0 :=
  zA_c (zOk_fl zn_aload (zs_aload_n (q := 0) rfl (by decide +kernel))) <|
  zA_c (zOk_fl zn_getI (zs_getI (k := 1) rfl (by decide) (by decide +kernel) rfl (by decide +kernel) zw_57)) <|
  zA_c (zOk_fl zn_ifne (zs_ifne (off := 10) (by decide +kernel) (by decide))) <|
  zA_c (zOk_fl zn_aload (zs_aload_n (q := 0) rfl (by decide +kernel))) <|
  zA_c (zOk_fl zn_getI (zs_getI (k := 2) rfl (by decide) (by decide +kernel) rfl (by decide +kernel) zw_58)) <|
  zA_c (zOk_fl zn_goto (zs_goto (off := 7) (by decide +kernel) (by decide))) <|
  zA_c (zOk_fl zn_aload (zs_aload_n (q := 0) rfl (by decide +kernel))) <|
  zA_c (zOk_fl zn_getI (zs_getI (k := 3) rfl (by decide) (by decide +kernel) rfl (by decide +kernel) zw_59)) <|
  zA_c (zOk_fl zn_istore (zs_istore_n (q := 1) rfl (by decide +kernel))) <|
  zA_c (zOk_fl zn_iload (zs_iload_n (q := 1) rfl (by decide +kernel))) <|
  zA_c (zOk_fl zn_push (zs_iconst (n := (-1)) (by decide +kernel) rfl)) <|
  zA_c (zOk_fl zn_iceq (zs_iceq (off := 15) (by decide +kernel) (by decide))) <|
  zA_c (zOk_fl zn_aload (zs_aload_n (q := 0) rfl (by decide +kernel))) <|
  zA_c (zOk_fl zn_iload (zs_iload_n (q := 1) rfl (by decide +kernel))) <|
  zA_c (zk_V zq_77 zw_605 rfl (by decide +kernel)) <|
  zA_c (zOk_fl zn_ifeq (zs_ifeq (off := 7) (by decide +kernel) (by decide))) <|
  zA_n
def zcl_105_1 : List (Nat × zmI) := [(32, zm_push 33 1), (33, zm_goto 37), (36, zm_push 37 0), (37, zm_zret)]
theorem zmc_105_1 (l : Launch) : zAll l "ChessWire$Board" prog_2_method_12_code 2 false (some .boolean) zcl_105_1 :=
  zA_c (zOk_fl zn_push (zs_iconst (n := 1) (by decide +kernel) rfl)) <|
  zA_c (zOk_fl zn_goto (zs_goto (off := 4) (by decide +kernel) (by decide))) <|
  zA_c (zOk_fl zn_push (zs_iconst (n := 0) (by decide +kernel) rfl)) <|
  zA_c (zs_zret (by decide +kernel) rfl) <|
  zA_n
def zc_105 : Nat → zmI := zgetC [zcl_105_0, zcl_105_1]
theorem zmf_105 (l : Launch) : zMf l zc_105 105 := ⟨by decide +kernel, false, (fun h => by cases h), fun pc => zgetC_ok (zA2_c (zmc_105_0 l) (zA2_c (zmc_105_1 l) (zA2_n))) pc⟩
def zcl_106_0 : List (Nat × zmI) := [(0, zm_iload 1 1), (1, zm_call 4 101 1 true 99), (4, zm_ifeq 7 10), (7, zm_push 9 (-2)), (9, zm_iret), (10, zm_aload 11 0), (11, zm_iload 12 1), (12, zm_call 15 107 2 true 0), (15, zm_ifeq 18 25), (18, zm_aload 19 0), (19, zm_getI 22 0 14), (22, zm_goto 27), (25, zm_push 27 (-3)), (27, zm_iret)]
theorem zmc_106_0 (l : Launch) : zAll l "ChessWire" prog_1_method_10_code 2 false (some .int) zcl_106_0 :=
  zA_c (zOk_fl zn_iload (zs_iload_n (q := 1) rfl (by decide +kernel))) <|
  zA_c (zk_S zq_101 zw_714 (by decide +kernel)) <|
  zA_c (zOk_fl zn_ifeq (zs_ifeq (off := 6) (by decide +kernel) (by decide))) <|
  zA_c (zOk_fl zn_push (zs_bipush (n := (-2)) (by decide +kernel) rfl)) <|
  zA_c (zs_iret (by decide +kernel) rfl) <|
  zA_c (zOk_fl zn_aload (zs_aload_n (q := 0) rfl (by decide +kernel))) <|
  zA_c (zOk_fl zn_iload (zs_iload_n (q := 1) rfl (by decide +kernel))) <|
  zA_c (zk_V zq_107 zw_737 rfl (by decide +kernel)) <|
  zA_c (zOk_fl zn_ifeq (zs_ifeq (off := 10) (by decide +kernel) (by decide))) <|
  zA_c (zOk_fl zn_aload (zs_aload_n (q := 0) rfl (by decide +kernel))) <|
  zA_c (zOk_fl zn_getI (zs_getI (k := 14) rfl (by decide) (by decide +kernel) rfl (by decide +kernel) zw_317)) <|
  zA_c (zOk_fl zn_goto (zs_goto (off := 5) (by decide +kernel) (by decide))) <|
  zA_c (zOk_fl zn_push (zs_bipush (n := (-3)) (by decide +kernel) rfl)) <|
  zA_c (zs_iret (by decide +kernel) rfl) <|
  zA_n
def zc_106 : Nat → zmI := zgetC [zcl_106_0]
theorem zmf_106 (l : Launch) : zMf l zc_106 106 := ⟨by decide +kernel, false, (fun h => by cases h), fun pc => zgetC_ok (zA2_c (zmc_106_0 l) (zA2_n)) pc⟩
def zcl_107_0 : List (Nat × zmI) := [(0, zm_aload 1 0), (1, zm_iload 2 1), (2, zm_call 5 102 2 true 0), (5, zm_push 6 (-1)), (6, zm_icne 9 11), (9, zm_push 10 0), (10, zm_zret), (11, zm_aload 12 0), (12, zm_getR 15 0 1), (15, zm_iload 16 1), (16, zm_call 19 108 2 false 2), (19, zm_aload 20 0), (20, zm_dup 21), (21, zm_getI 24 0 14), (24, zm_push 25 1), (25, zm_bin 26 (fun x y => w32 (x + y))), (26, zm_putI 29 0 14), (29, zm_aload 30 0), (30, zm_push 31 0), (31, zm_putZ 34 0 16)]
theorem zmc_107_0 (l : Launch) : zAll l "ChessWire" prog_1_method_46_code 2 false (some .boolean) zcl_107_0 :=
  zA_c (zOk_fl zn_aload (zs_aload_n (q := 0) rfl (by decide +kernel))) <|
  zA_c (zOk_fl zn_iload (zs_iload_n (q := 1) rfl (by decide +kernel))) <|
  zA_c (zk_V zq_102 zw_717 rfl (by decide +kernel)) <|
  zA_c (zOk_fl zn_push (zs_iconst (n := (-1)) (by decide +kernel) rfl)) <|
  zA_c (zOk_fl zn_icne (zs_icne (off := 5) (by decide +kernel) (by decide))) <|
  zA_c (zOk_fl zn_push (zs_iconst (n := 0) (by decide +kernel) rfl)) <|
  zA_c (zs_zret (by decide +kernel) rfl) <|
  zA_c (zOk_fl zn_aload (zs_aload_n (q := 0) rfl (by decide +kernel))) <|
  zA_c (zOk_fl zn_getR (zs_getR (k := 1) rfl (by decide) (by decide +kernel) rfl (by decide +kernel) zw_304)) <|
  zA_c (zOk_fl zn_iload (zs_iload_n (q := 1) rfl (by decide +kernel))) <|
  zA_c (zk_V zq_108 zw_741 rfl (by decide +kernel)) <|
  zA_c (zOk_fl zn_aload (zs_aload_n (q := 0) rfl (by decide +kernel))) <|
  zA_c (zOk_fl zn_dup (zs_dup (by decide +kernel))) <|
  zA_c (zOk_fl zn_getI (zs_getI (k := 14) rfl (by decide) (by decide +kernel) rfl (by decide +kernel) zw_317)) <|
  zA_c (zOk_fl zn_push (zs_iconst (n := 1) (by decide +kernel) rfl)) <|
  zA_c (zOk_fl zn_bin (zs_iadd (by decide +kernel))) <|
  zA_c (zOk_sn zn_putI (zs_putI (k := 14) rfl (by decide) (by decide +kernel) rfl rfl (by decide +kernel) zw_317)) <|
  zA_c (zOk_fl zn_aload (zs_aload_n (q := 0) rfl (by decide +kernel))) <|
  zA_c (zOk_fl zn_push (zs_iconst (n := 0) (by decide +kernel) rfl)) <|
  zA_c (zOk_sn zn_putZ (zs_putZ (k := 16) rfl (by decide) (by decide +kernel) rfl rfl (by decide +kernel) zw_319)) <|
  zA_n
def zcl_107_1 : List (Nat × zmI) := [(34, zm_push 35 1), (35, zm_zret)]
theorem zmc_107_1 (l : Launch) : zAll l "ChessWire" prog_1_method_46_code 2 false (some .boolean) zcl_107_1 :=
  zA_c (zOk_fl zn_push (zs_iconst (n := 1) (by decide +kernel) rfl)) <|
  zA_c (zs_zret (by decide +kernel) rfl) <|
  zA_n
def zc_107 : Nat → zmI := zgetC [zcl_107_0, zcl_107_1]
theorem zmf_107 (l : Launch) : zMf l zc_107 107 := ⟨by decide +kernel, false, (fun h => by cases h), fun pc => zgetC_ok (zA2_c (zmc_107_0 l) (zA2_c (zmc_107_1 l) (zA2_n))) pc⟩
def zcl_108_0 : List (Nat × zmI) := [(0, zm_iload 1 1), (1, zm_push 3 6), (3, zm_bin 4 z_shr), (4, zm_istore 5 2), (5, zm_iload 6 1), (6, zm_push 8 63), (8, zm_bin 9 z_and), (9, zm_istore 10 3), (10, zm_iload 11 2), (11, zm_iflt 14 20), (14, zm_iload 15 2), (15, zm_push 17 64), (17, zm_iclt 20 21), (20, zm_vret), (21, zm_aload 22 0), (22, zm_getR 25 2 0), (25, zm_iload 26 2), (26, zm_ald 27 100), (27, zm_istore 29 4), (29, zm_iload 30 3), (30, zm_push 31 3), (31, zm_bin 32 z_shr)]
theorem zmc_108_0 (l : Launch) : zAll l "ChessWire$Board" prog_2_method_13_code 6 false (none) zcl_108_0 :=
  zA_c (zOk_fl zn_iload (zs_iload_n (q := 1) rfl (by decide +kernel))) <|
  zA_c (zOk_fl zn_push (zs_bipush (n := 6) (by decide +kernel) rfl)) <|
  zA_c (zOk_fl zn_bin (zs_ishr (by decide +kernel))) <|
  zA_c (zOk_fl zn_istore (zs_istore_n (q := 2) rfl (by decide +kernel))) <|
  zA_c (zOk_fl zn_iload (zs_iload_n (q := 1) rfl (by decide +kernel))) <|
  zA_c (zOk_fl zn_push (zs_bipush (n := 63) (by decide +kernel) rfl)) <|
  zA_c (zOk_fl zn_bin (zs_iand (by decide +kernel))) <|
  zA_c (zOk_fl zn_istore (zs_istore_n (q := 3) rfl (by decide +kernel))) <|
  zA_c (zOk_fl zn_iload (zs_iload_n (q := 2) rfl (by decide +kernel))) <|
  zA_c (zOk_fl zn_iflt (zs_iflt (off := 9) (by decide +kernel) (by decide))) <|
  zA_c (zOk_fl zn_iload (zs_iload_n (q := 2) rfl (by decide +kernel))) <|
  zA_c (zOk_fl zn_push (zs_bipush (n := 64) (by decide +kernel) rfl)) <|
  zA_c (zOk_fl zn_iclt (zs_iclt (off := 4) (by decide +kernel) (by decide))) <|
  zA_c (zs_vret (by decide +kernel) rfl) <|
  zA_c (zOk_fl zn_aload (zs_aload_n (q := 0) rfl (by decide +kernel))) <|
  zA_c (zOk_fl zn_getR (zs_getR (k := 0) rfl (by decide) (by decide +kernel) rfl (by decide +kernel) zw_56)) <|
  zA_c (zOk_fl zn_iload (zs_iload_n (q := 2) rfl (by decide +kernel))) <|
  zA_c (zOk_fl zn_ald (zs_iald (by decide +kernel))) <|
  zA_c (zOk_fl zn_istore (zs_istore (by decide +kernel))) <|
  zA_c (zOk_fl zn_iload (zs_iload_n (q := 3) rfl (by decide +kernel))) <|
  zA_c (zOk_fl zn_push (zs_iconst (n := 3) (by decide +kernel) rfl)) <|
  zA_c (zOk_fl zn_bin (zs_ishr (by decide +kernel))) <|
  zA_n
def zcl_108_1 : List (Nat × zmI) := [(32, zm_istore 34 5), (34, zm_iload 35 3), (35, zm_aload 36 0), (36, zm_getI 39 2 2), (39, zm_icne 42 50), (42, zm_aload 43 0), (43, zm_push 44 (-1)), (44, zm_putI 47 2 2), (47, zm_goto 63), (50, zm_iload 51 3), (51, zm_aload 52 0), (52, zm_getI 55 2 3), (55, zm_icne 58 63), (58, zm_aload 59 0), (59, zm_push 60 (-1)), (60, zm_putI 63 2 3), (63, zm_aload 64 0)]
theorem zmc_108_1 (l : Launch) : zAll l "ChessWire$Board" prog_2_method_13_code 6 false (none) zcl_108_1 :=
  zA_c (zOk_fl zn_istore (zs_istore (by decide +kernel))) <|
  zA_c (zOk_fl zn_iload (zs_iload_n (q := 3) rfl (by decide +kernel))) <|
  zA_c (zOk_fl zn_aload (zs_aload_n (q := 0) rfl (by decide +kernel))) <|
  zA_c (zOk_fl zn_getI (zs_getI (k := 2) rfl (by decide) (by decide +kernel) rfl (by decide +kernel) zw_58)) <|
  zA_c (zOk_fl zn_icne (zs_icne (off := 11) (by decide +kernel) (by decide))) <|
  zA_c (zOk_fl zn_aload (zs_aload_n (q := 0) rfl (by decide +kernel))) <|
  zA_c (zOk_fl zn_push (zs_iconst (n := (-1)) (by decide +kernel) rfl)) <|
  zA_c (zOk_sn zn_putI (zs_putI (k := 2) rfl (by decide) (by decide +kernel) rfl rfl (by decide +kernel) zw_58)) <|
  zA_c (zOk_fl zn_goto (zs_goto (off := 16) (by decide +kernel) (by decide))) <|
  zA_c (zOk_fl zn_iload (zs_iload_n (q := 3) rfl (by decide +kernel))) <|
  zA_c (zOk_fl zn_aload (zs_aload_n (q := 0) rfl (by decide +kernel))) <|
  zA_c (zOk_fl zn_getI (zs_getI (k := 3) rfl (by decide) (by decide +kernel) rfl (by decide +kernel) zw_59)) <|
  zA_c (zOk_fl zn_icne (zs_icne (off := 8) (by decide +kernel) (by decide))) <|
  zA_c (zOk_fl zn_aload (zs_aload_n (q := 0) rfl (by decide +kernel))) <|
  zA_c (zOk_fl zn_push (zs_iconst (n := (-1)) (by decide +kernel) rfl)) <|
  zA_c (zOk_sn zn_putI (zs_putI (k := 3) rfl (by decide) (by decide +kernel) rfl rfl (by decide +kernel) zw_59)) <|
  zA_c (zOk_fl zn_aload (zs_aload_n (q := 0) rfl (by decide +kernel))) <|
  zA_n
def zcl_108_2 : List (Nat × zmI) := [(64, zm_getR 67 2 0), (67, zm_iload 68 2), (68, zm_push 69 0), (69, zm_iast 70), (70, zm_iload 72 4), (72, zm_push 73 1), (73, zm_icne 76 89), (76, zm_iload 78 5), (78, zm_push 80 7), (80, zm_icne 83 89), (83, zm_push 84 5), (84, zm_istore 86 4), (86, zm_goto 104), (89, zm_iload 91 4), (91, zm_push 92 (-1)), (92, zm_icne 95 104), (95, zm_iload 97 5)]
theorem zmc_108_2 (l : Launch) : zAll l "ChessWire$Board" prog_2_method_13_code 6 false (none) zcl_108_2 :=
  zA_c (zOk_fl zn_getR (zs_getR (k := 0) rfl (by decide) (by decide +kernel) rfl (by decide +kernel) zw_56)) <|
  zA_c (zOk_fl zn_iload (zs_iload_n (q := 2) rfl (by decide +kernel))) <|
  zA_c (zOk_fl zn_push (zs_iconst (n := 0) (by decide +kernel) rfl)) <|
  zA_c (zOk_sn zn_iast (zs_iast (by decide +kernel))) <|
  zA_c (zOk_fl zn_iload (zs_iload (by decide +kernel))) <|
  zA_c (zOk_fl zn_push (zs_iconst (n := 1) (by decide +kernel) rfl)) <|
  zA_c (zOk_fl zn_icne (zs_icne (off := 16) (by decide +kernel) (by decide))) <|
  zA_c (zOk_fl zn_iload (zs_iload (by decide +kernel))) <|
  zA_c (zOk_fl zn_push (zs_bipush (n := 7) (by decide +kernel) rfl)) <|
  zA_c (zOk_fl zn_icne (zs_icne (off := 9) (by decide +kernel) (by decide))) <|
  zA_c (zOk_fl zn_push (zs_iconst (n := 5) (by decide +kernel) rfl)) <|
  zA_c (zOk_fl zn_istore (zs_istore (by decide +kernel))) <|
  zA_c (zOk_fl zn_goto (zs_goto (off := 18) (by decide +kernel) (by decide))) <|
  zA_c (zOk_fl zn_iload (zs_iload (by decide +kernel))) <|
  zA_c (zOk_fl zn_push (zs_iconst (n := (-1)) (by decide +kernel) rfl)) <|
  zA_c (zOk_fl zn_icne (zs_icne (off := 12) (by decide +kernel) (by decide))) <|
  zA_c (zOk_fl zn_iload (zs_iload (by decide +kernel))) <|
  zA_n
def zcl_108_3 : List (Nat × zmI) := [(97, zm_ifne 100 104), (100, zm_push 102 (-5)), (102, zm_istore 104 4), (104, zm_aload 105 0), (105, zm_iload 106 3), (106, zm_iload 108 4), (108, zm_call 111 51 3 false 2), (111, zm_aload 112 0), (112, zm_push 113 1), (113, zm_aload 114 0), (114, zm_getI 117 2 1), (117, zm_bin 118 (fun x y => w32 (x - y))), (118, zm_putI 121 2 1), (121, zm_vret)]
theorem zmc_108_3 (l : Launch) : zAll l "ChessWire$Board" prog_2_method_13_code 6 false (none) zcl_108_3 :=
  zA_c (zOk_fl zn_ifne (zs_ifne (off := 7) (by decide +kernel) (by decide))) <|
  zA_c (zOk_fl zn_push (zs_bipush (n := (-5)) (by decide +kernel) rfl)) <|
  zA_c (zOk_fl zn_istore (zs_istore (by decide +kernel))) <|
  zA_c (zOk_fl zn_aload (zs_aload_n (q := 0) rfl (by decide +kernel))) <|
  zA_c (zOk_fl zn_iload (zs_iload_n (q := 3) rfl (by decide +kernel))) <|
  zA_c (zOk_fl zn_iload (zs_iload (by decide +kernel))) <|
  zA_c (zk_V zq_51 zw_745 rfl (by decide +kernel)) <|
  zA_c (zOk_fl zn_aload (zs_aload_n (q := 0) rfl (by decide +kernel))) <|
  zA_c (zOk_fl zn_push (zs_iconst (n := 1) (by decide +kernel) rfl)) <|
  zA_c (zOk_fl zn_aload (zs_aload_n (q := 0) rfl (by decide +kernel))) <|
  zA_c (zOk_fl zn_getI (zs_getI (k := 1) rfl (by decide) (by decide +kernel) rfl (by decide +kernel) zw_57)) <|
  zA_c (zOk_fl zn_bin (zs_isub (by decide +kernel))) <|
  zA_c (zOk_sn zn_putI (zs_putI (k := 1) rfl (by decide) (by decide +kernel) rfl rfl (by decide +kernel) zw_57)) <|
  zA_c (zs_vret (by decide +kernel) rfl) <|
  zA_n
def zc_108 : Nat → zmI := zgetC [zcl_108_0, zcl_108_1, zcl_108_2, zcl_108_3]
theorem zmf_108 (l : Launch) : zMf l zc_108 108 := ⟨by decide +kernel, false, (fun h => by cases h), fun pc => zgetC_ok (zA2_c (zmc_108_0 l) (zA2_c (zmc_108_1 l) (zA2_c (zmc_108_2 l) (zA2_c (zmc_108_3 l) (zA2_n))))) pc⟩
def zcl_109_0 : List (Nat × zmI) := [(0, zm_aload 1 0), (1, zm_iload 2 1), (2, zm_call 5 110 2 true 0), (5, zm_ifeq 8 11), (8, zm_push 10 (-2)), (10, zm_iret), (11, zm_aload 12 0), (12, zm_getR 15 0 12), (15, zm_iload 16 1), (16, zm_aald 17 107), (17, zm_astore 18 2), (18, zm_aload 19 2), (19, zm_call 22 111 1 true 11), (22, zm_ifeq 25 31), (25, zm_aload 26 0), (26, zm_push 27 1), (27, zm_call 30 112 2 true 0), (30, zm_iret), (31, zm_push 32 0)]
theorem zmc_109_0 (l : Launch) : zAll l "ChessWire" prog_1_method_11_code 4 false (some .int) zcl_109_0 :=
  zA_c (zOk_fl zn_aload (zs_aload_n (q := 0) rfl (by decide +kernel))) <|
  zA_c (zOk_fl zn_iload (zs_iload_n (q := 1) rfl (by decide +kernel))) <|
  zA_c (zk_V zq_110 zw_750 rfl (by decide +kernel)) <|
  zA_c (zOk_fl zn_ifeq (zs_ifeq (off := 6) (by decide +kernel) (by decide))) <|
  zA_c (zOk_fl zn_push (zs_bipush (n := (-2)) (by decide +kernel) rfl)) <|
  zA_c (zs_iret (by decide +kernel) rfl) <|
  zA_c (zOk_fl zn_aload (zs_aload_n (q := 0) rfl (by decide +kernel))) <|
  zA_c (zOk_fl zn_getR (zs_getR (k := 12) rfl (by decide) (by decide +kernel) rfl (by decide +kernel) zw_315)) <|
  zA_c (zOk_fl zn_iload (zs_iload_n (q := 1) rfl (by decide +kernel))) <|
  zA_c (zOk_fl zn_aald (zs_aald (t := 7) (by decide) (by decide) rfl rfl (by decide +kernel))) <|
  zA_c (zOk_fl zn_astore (zs_astore_n (q := 2) rfl (by decide +kernel))) <|
  zA_c (zOk_fl zn_aload (zs_aload_n (q := 2) rfl (by decide +kernel))) <|
  zA_c (zk_V zq_111 zw_754 rfl (by decide +kernel)) <|
  zA_c (zOk_fl zn_ifeq (zs_ifeq (off := 9) (by decide +kernel) (by decide))) <|
  zA_c (zOk_fl zn_aload (zs_aload_n (q := 0) rfl (by decide +kernel))) <|
  zA_c (zOk_fl zn_push (zs_iconst (n := 1) (by decide +kernel) rfl)) <|
  zA_c (zk_V zq_112 zw_758 rfl (by decide +kernel)) <|
  zA_c (zs_iret (by decide +kernel) rfl) <|
  zA_c (zOk_fl zn_push (zs_iconst (n := 0) (by decide +kernel) rfl)) <|
  zA_n
def zcl_109_1 : List (Nat × zmI) := [(32, zm_istore 33 3), (33, zm_iload 34 3), (34, zm_aload 35 2), (35, zm_call 38 113 1 true 11), (38, zm_icge 41 59), (41, zm_aload 42 0), (42, zm_aload 43 2), (43, zm_iload 44 3), (44, zm_call 47 114 2 true 11), (47, zm_call 50 107 2 true 0), (50, zm_ifeq 53 59), (53, zm_iinc 56 3 1), (56, zm_goto 33), (59, zm_iload 60 3), (60, zm_iret)]
theorem zmc_109_1 (l : Launch) : zAll l "ChessWire" prog_1_method_11_code 4 false (some .int) zcl_109_1 :=
  zA_c (zOk_fl zn_istore (zs_istore_n (q := 3) rfl (by decide +kernel))) <|
  zA_c (zOk_fl zn_iload (zs_iload_n (q := 3) rfl (by decide +kernel))) <|
  zA_c (zOk_fl zn_aload (zs_aload_n (q := 2) rfl (by decide +kernel))) <|
  zA_c (zk_V zq_113 zw_762 rfl (by decide +kernel)) <|
  zA_c (zOk_fl zn_icge (zs_icge (off := 21) (by decide +kernel) (by decide))) <|
  zA_c (zOk_fl zn_aload (zs_aload_n (q := 0) rfl (by decide +kernel))) <|
  zA_c (zOk_fl zn_aload (zs_aload_n (q := 2) rfl (by decide +kernel))) <|
  zA_c (zOk_fl zn_iload (zs_iload_n (q := 3) rfl (by decide +kernel))) <|
  zA_c (zk_V zq_114 zw_766 rfl (by decide +kernel)) <|
  zA_c (zk_V zq_107 zw_737 rfl (by decide +kernel)) <|
  zA_c (zOk_fl zn_ifeq (zs_ifeq (off := 9) (by decide +kernel) (by decide))) <|
  zA_c (zOk_fl zn_iinc (zs_iinc rfl (by decide +kernel))) <|
  zA_c (zOk_fl zn_goto (zs_goto (off := (-23)) (by decide +kernel) (by decide))) <|
  zA_c (zOk_fl zn_iload (zs_iload_n (q := 3) rfl (by decide +kernel))) <|
  zA_c (zs_iret (by decide +kernel) rfl) <|
  zA_n
def zc_109 : Nat → zmI := zgetC [zcl_109_0, zcl_109_1]
theorem zmf_109 (l : Launch) : zMf l zc_109 109 := ⟨by decide +kernel, false, (fun h => by cases h), fun pc => zgetC_ok (zA2_c (zmc_109_0 l) (zA2_c (zmc_109_1 l) (zA2_n))) pc⟩
def zcl_110_0 : List (Nat × zmI) := [(0, zm_iload 1 1), (1, zm_iflt 4 13), (4, zm_iload 5 1), (5, zm_aload 6 0), (6, zm_getR 9 0 12), (9, zm_alen 10), (10, zm_iclt 13 17), (13, zm_push 14 1), (14, zm_goto 18), (17, zm_push 18 0), (18, zm_zret)]
theorem zmc_110_0 (l : Launch) : zAll l "ChessWire" prog_1_method_36_code 2 false (some .boolean) zcl_110_0 :=
  zA_c (zOk_fl zn_iload (zs_iload_n (q := 1) rfl (by decide +kernel))) <|
  zA_c (zOk_fl zn_iflt (zs_iflt (off := 12) (by decide +kernel) (by decide))) <|
  zA_c (zOk_fl zn_iload (zs_iload_n (q := 1) rfl (by decide +kernel))) <|
  zA_c (zOk_fl zn_aload (zs_aload_n (q := 0) rfl (by decide +kernel))) <|
  zA_c (zOk_fl zn_getR (zs_getR (k := 12) rfl (by decide) (by decide +kernel) rfl (by decide +kernel) zw_315)) <|
  zA_c (zOk_fl zn_alen (zs_alen (by decide +kernel))) <|
  zA_c (zOk_fl zn_iclt (zs_iclt (off := 7) (by decide +kernel) (by decide))) <|
  zA_c (zOk_fl zn_push (zs_iconst (n := 1) (by decide +kernel) rfl)) <|
  zA_c (zOk_fl zn_goto (zs_goto (off := 4) (by decide +kernel) (by decide))) <|
  zA_c (zOk_fl zn_push (zs_iconst (n := 0) (by decide +kernel) rfl)) <|
  zA_c (zs_zret (by decide +kernel) rfl) <|
  zA_n
def zc_110 : Nat → zmI := zgetC [zcl_110_0]
theorem zmf_110 (l : Launch) : zMf l zc_110 110 := ⟨by decide +kernel, false, (fun h => by cases h), fun pc => zgetC_ok (zA2_c (zmc_110_0 l) (zA2_n)) pc⟩
def zcl_111_0 : List (Nat × zmI) := [(0, zm_aload 1 0), (1, zm_getI 4 11 1), (4, zm_ifne 7 11), (7, zm_push 8 1), (8, zm_goto 12), (11, zm_push 12 0), (12, zm_zret)]
theorem zmc_111_0 (l : Launch) : zAll l "ChessWire$Sheet" prog_11_method_5_code 1 false (some .boolean) zcl_111_0 :=
  zA_c (zOk_fl zn_aload (zs_aload_n (q := 0) rfl (by decide +kernel))) <|
  zA_c (zOk_fl zn_getI (zs_getI (k := 1) rfl (by decide) (by decide +kernel) rfl (by decide +kernel) zw_291)) <|
  zA_c (zOk_fl zn_ifne (zs_ifne (off := 7) (by decide +kernel) (by decide))) <|
  zA_c (zOk_fl zn_push (zs_iconst (n := 1) (by decide +kernel) rfl)) <|
  zA_c (zOk_fl zn_goto (zs_goto (off := 4) (by decide +kernel) (by decide))) <|
  zA_c (zOk_fl zn_push (zs_iconst (n := 0) (by decide +kernel) rfl)) <|
  zA_c (zs_zret (by decide +kernel) rfl) <|
  zA_n
def zc_111 : Nat → zmI := zgetC [zcl_111_0]
theorem zmf_111 (l : Launch) : zMf l zc_111 111 := ⟨by decide +kernel, false, (fun h => by cases h), fun pc => zgetC_ok (zA2_c (zmc_111_0 l) (zA2_n)) pc⟩
def zcl_112_0 : List (Nat × zmI) := [(0, zm_aload 1 0), (1, zm_iload 2 1), (2, zm_putI 5 0 15), (5, zm_push 7 (-10)), (7, zm_iload 8 1), (8, zm_bin 9 (fun x y => w32 (x - y))), (9, zm_iret)]
theorem zmc_112_0 (l : Launch) : zAll l "ChessWire" prog_1_method_40_code 2 false (some .int) zcl_112_0 :=
  zA_c (zOk_fl zn_aload (zs_aload_n (q := 0) rfl (by decide +kernel))) <|
  zA_c (zOk_fl zn_iload (zs_iload_n (q := 1) rfl (by decide +kernel))) <|
  zA_c (zOk_sn zn_putI (zs_putI (k := 15) rfl (by decide) (by decide +kernel) rfl rfl (by decide +kernel) zw_318)) <|
  zA_c (zOk_fl zn_push (zs_bipush (n := (-10)) (by decide +kernel) rfl)) <|
  zA_c (zOk_fl zn_iload (zs_iload_n (q := 1) rfl (by decide +kernel))) <|
  zA_c (zOk_fl zn_bin (zs_isub (by decide +kernel))) <|
  zA_c (zs_iret (by decide +kernel) rfl) <|
  zA_n
def zc_112 : Nat → zmI := zgetC [zcl_112_0]
theorem zmf_112 (l : Launch) : zMf l zc_112 112 := ⟨by decide +kernel, false, (fun h => by cases h), fun pc => zgetC_ok (zA2_c (zmc_112_0 l) (zA2_n)) pc⟩
def zcl_113_0 : List (Nat × zmI) := [(0, zm_aload 1 0), (1, zm_getI 4 11 3), (4, zm_iret)]
theorem zmc_113_0 (l : Launch) : zAll l "ChessWire$Sheet" prog_11_method_7_code 1 false (some .int) zcl_113_0 :=
  zA_c (zOk_fl zn_aload (zs_aload_n (q := 0) rfl (by decide +kernel))) <|
  zA_c (zOk_fl zn_getI (zs_getI (k := 3) rfl (by decide) (by decide +kernel) rfl (by decide +kernel) zw_293)) <|
  zA_c (zs_iret (by decide +kernel) rfl) <|
  zA_n
def zc_113 : Nat → zmI := zgetC [zcl_113_0]
theorem zmf_113 (l : Launch) : zMf l zc_113 113 := ⟨by decide +kernel, false, (fun h => by cases h), fun pc => zgetC_ok (zA2_c (zmc_113_0 l) (zA2_n)) pc⟩
def zcl_114_0 : List (Nat × zmI) := [(0, zm_iload 1 1), (1, zm_iflt 4 21), (4, zm_iload 5 1), (5, zm_aload 6 0), (6, zm_getI 9 11 3), (9, zm_icge 12 21), (12, zm_aload 13 0), (13, zm_getR 16 11 0), (16, zm_iload 17 1), (17, zm_ald 18 100), (18, zm_goto 22), (21, zm_push 22 0), (22, zm_iret)]
theorem zmc_114_0 (l : Launch) : zAll l "ChessWire$Sheet" prog_11_method_9_code 2 false (some .int) zcl_114_0 :=
  zA_c (zOk_fl zn_iload (zs_iload_n (q := 1) rfl (by decide +kernel))) <|
  zA_c (zOk_fl zn_iflt (zs_iflt (off := 20) (by decide +kernel) (by decide))) <|
  zA_c (zOk_fl zn_iload (zs_iload_n (q := 1) rfl (by decide +kernel))) <|
  zA_c (zOk_fl zn_aload (zs_aload_n (q := 0) rfl (by decide +kernel))) <|
  zA_c (zOk_fl zn_getI (zs_getI (k := 3) rfl (by decide) (by decide +kernel) rfl (by decide +kernel) zw_293)) <|
  zA_c (zOk_fl zn_icge (zs_icge (off := 12) (by decide +kernel) (by decide))) <|
  zA_c (zOk_fl zn_aload (zs_aload_n (q := 0) rfl (by decide +kernel))) <|
  zA_c (zOk_fl zn_getR (zs_getR (k := 0) rfl (by decide) (by decide +kernel) rfl (by decide +kernel) zw_290)) <|
  zA_c (zOk_fl zn_iload (zs_iload_n (q := 1) rfl (by decide +kernel))) <|
  zA_c (zOk_fl zn_ald (zs_iald (by decide +kernel))) <|
  zA_c (zOk_fl zn_goto (zs_goto (off := 4) (by decide +kernel) (by decide))) <|
  zA_c (zOk_fl zn_push (zs_iconst (n := 0) (by decide +kernel) rfl)) <|
  zA_c (zs_iret (by decide +kernel) rfl) <|
  zA_n
def zc_114 : Nat → zmI := zgetC [zcl_114_0]
theorem zmf_114 (l : Launch) : zMf l zc_114 114 := ⟨by decide +kernel, false, (fun h => by cases h), fun pc => zgetC_ok (zA2_c (zmc_114_0 l) (zA2_n)) pc⟩
def zcl_115_0 : List (Nat × zmI) := [(0, zm_aload 1 0), (1, zm_getI 4 0 14), (4, zm_istore 5 1), (5, zm_aload 6 0), (6, zm_call 9 18 1 false 0), (9, zm_iload 10 1), (10, zm_iret)]
theorem zmc_115_0 (l : Launch) : zAll l "ChessWire" prog_1_method_12_code 2 false (some .int) zcl_115_0 :=
  zA_c (zOk_fl zn_aload (zs_aload_n (q := 0) rfl (by decide +kernel))) <|
  zA_c (zOk_fl zn_getI (zs_getI (k := 14) rfl (by decide) (by decide +kernel) rfl (by decide +kernel) zw_317)) <|
  zA_c (zOk_fl zn_istore (zs_istore_n (q := 1) rfl (by decide +kernel))) <|
  zA_c (zOk_fl zn_aload (zs_aload_n (q := 0) rfl (by decide +kernel))) <|
  zA_c (zk_V zq_18 zw_371 rfl (by decide +kernel)) <|
  zA_c (zOk_fl zn_iload (zs_iload_n (q := 1) rfl (by decide +kernel))) <|
  zA_c (zs_iret (by decide +kernel) rfl) <|
  zA_n
def zc_115 : Nat → zmI := zgetC [zcl_115_0]
theorem zmf_115 (l : Launch) : zMf l zc_115 115 := ⟨by decide +kernel, false, (fun h => by cases h), fun pc => zgetC_ok (zA2_c (zmc_115_0 l) (zA2_n)) pc⟩
def zcl_116_0 : List (Nat × zmI) := [(0, zm_iload 1 1), (1, zm_call 4 101 1 true 99), (4, zm_ifne 7 12), (7, zm_iload 8 2), (8, zm_push 9 (-1)), (9, zm_icge 12 15), (12, zm_push 14 (-2)), (14, zm_iret), (15, zm_aload 16 0), (16, zm_iload 17 1), (17, zm_call 20 102 2 true 0), (20, zm_istore 21 3), (21, zm_iload 22 3), (22, zm_push 23 (-1)), (23, zm_icne 26 29), (26, zm_push 28 (-3)), (28, zm_iret), (29, zm_iload 30 2), (30, zm_push 31 (-1)), (31, zm_icne 34 45)]
theorem zmc_116_0 (l : Launch) : zAll l "ChessWire" prog_1_method_13_code 4 false (some .int) zcl_116_0 :=
  zA_c (zOk_fl zn_iload (zs_iload_n (q := 1) rfl (by decide +kernel))) <|
  zA_c (zk_S zq_101 zw_714 (by decide +kernel)) <|
  zA_c (zOk_fl zn_ifne (zs_ifne (off := 8) (by decide +kernel) (by decide))) <|
  zA_c (zOk_fl zn_iload (zs_iload_n (q := 2) rfl (by decide +kernel))) <|
  zA_c (zOk_fl zn_push (zs_iconst (n := (-1)) (by decide +kernel) rfl)) <|
  zA_c (zOk_fl zn_icge (zs_icge (off := 6) (by decide +kernel) (by decide))) <|
  zA_c (zOk_fl zn_push (zs_bipush (n := (-2)) (by decide +kernel) rfl)) <|
  zA_c (zs_iret (by decide +kernel) rfl) <|
  zA_c (zOk_fl zn_aload (zs_aload_n (q := 0) rfl (by decide +kernel))) <|
  zA_c (zOk_fl zn_iload (zs_iload_n (q := 1) rfl (by decide +kernel))) <|
  zA_c (zk_V zq_102 zw_717 rfl (by decide +kernel)) <|
  zA_c (zOk_fl zn_istore (zs_istore_n (q := 3) rfl (by decide +kernel))) <|
  zA_c (zOk_fl zn_iload (zs_iload_n (q := 3) rfl (by decide +kernel))) <|
  zA_c (zOk_fl zn_push (zs_iconst (n := (-1)) (by decide +kernel) rfl)) <|
  zA_c (zOk_fl zn_icne (zs_icne (off := 6) (by decide +kernel) (by decide))) <|
  zA_c (zOk_fl zn_push (zs_bipush (n := (-3)) (by decide +kernel) rfl)) <|
  zA_c (zs_iret (by decide +kernel) rfl) <|
  zA_c (zOk_fl zn_iload (zs_iload_n (q := 2) rfl (by decide +kernel))) <|
  zA_c (zOk_fl zn_push (zs_iconst (n := (-1)) (by decide +kernel) rfl)) <|
  zA_c (zOk_fl zn_icne (zs_icne (off := 14) (by decide +kernel) (by decide))) <|
  zA_n
def zcl_116_1 : List (Nat × zmI) := [(34, zm_aload 35 0), (35, zm_getR 38 0 5), (38, zm_iload 39 3), (39, zm_call 42 117 2 true 5), (42, zm_goto 54), (45, zm_aload 46 0), (46, zm_getR 49 0 5), (49, zm_iload 50 3), (50, zm_iload 51 2), (51, zm_call 54 118 3 true 5), (54, zm_iret)]
theorem zmc_116_1 (l : Launch) : zAll l "ChessWire" prog_1_method_13_code 4 false (some .int) zcl_116_1 :=
  zA_c (zOk_fl zn_aload (zs_aload_n (q := 0) rfl (by decide +kernel))) <|
  zA_c (zOk_fl zn_getR (zs_getR (k := 5) rfl (by decide) (by decide +kernel) rfl (by decide +kernel) zw_308)) <|
  zA_c (zOk_fl zn_iload (zs_iload_n (q := 3) rfl (by decide +kernel))) <|
  zA_c (zk_V zq_117 zw_778 rfl (by decide +kernel)) <|
  zA_c (zOk_fl zn_goto (zs_goto (off := 12) (by decide +kernel) (by decide))) <|
  zA_c (zOk_fl zn_aload (zs_aload_n (q := 0) rfl (by decide +kernel))) <|
  zA_c (zOk_fl zn_getR (zs_getR (k := 5) rfl (by decide) (by decide +kernel) rfl (by decide +kernel) zw_308)) <|
  zA_c (zOk_fl zn_iload (zs_iload_n (q := 3) rfl (by decide +kernel))) <|
  zA_c (zOk_fl zn_iload (zs_iload_n (q := 2) rfl (by decide +kernel))) <|
  zA_c (zk_V zq_118 zw_785 rfl (by decide +kernel)) <|
  zA_c (zs_iret (by decide +kernel) rfl) <|
  zA_n
def zc_116 : Nat → zmI := zgetC [zcl_116_0, zcl_116_1]
theorem zmf_116 (l : Launch) : zMf l zc_116 116 := ⟨by decide +kernel, false, (fun h => by cases h), fun pc => zgetC_ok (zA2_c (zmc_116_0 l) (zA2_c (zmc_116_1 l) (zA2_n))) pc⟩
def zcl_117_0 : List (Nat × zmI) := [(0, zm_aload 1 0), (1, zm_iload 2 1), (2, zm_call 5 98 2 true 5), (5, zm_call 8 92 1 true 99), (8, zm_call 11 93 1 true 99), (11, zm_iret)]
theorem zmc_117_0 (l : Launch) : zAll l "ChessWire$MoveList" prog_8_method_10_code 2 false (some .int) zcl_117_0 :=
  zA_c (zOk_fl zn_aload (zs_aload_n (q := 0) rfl (by decide +kernel))) <|
  zA_c (zOk_fl zn_iload (zs_iload_n (q := 1) rfl (by decide +kernel))) <|
  zA_c (zk_V zq_98 zw_782 rfl (by decide +kernel)) <|
  zA_c (zk_S zq_92 zw_783 (by decide +kernel)) <|
  zA_c (zk_S zq_93 zw_784 (by decide +kernel)) <|
  zA_c (zs_iret (by decide +kernel) rfl) <|
  zA_n
def zc_117 : Nat → zmI := zgetC [zcl_117_0]
theorem zmf_117 (l : Launch) : zMf l zc_117 117 := ⟨by decide +kernel, false, (fun h => by cases h), fun pc => zgetC_ok (zA2_c (zmc_117_0 l) (zA2_n)) pc⟩
def zcl_118_0 : List (Nat × zmI) := [(0, zm_aload 1 0), (1, zm_iload 2 1), (2, zm_call 5 98 2 true 5), (5, zm_call 8 92 1 true 99), (8, zm_aload 9 0), (9, zm_iload 10 1), (10, zm_call 13 96 2 true 5), (13, zm_aload 14 0), (14, zm_iload 15 1), (15, zm_call 18 97 2 true 5), (18, zm_iload 19 2), (19, zm_call 22 119 4 true 99), (22, zm_iret)]
theorem zmc_118_0 (l : Launch) : zAll l "ChessWire$MoveList" prog_8_method_12_code 3 false (some .int) zcl_118_0 :=
  zA_c (zOk_fl zn_aload (zs_aload_n (q := 0) rfl (by decide +kernel))) <|
  zA_c (zOk_fl zn_iload (zs_iload_n (q := 1) rfl (by decide +kernel))) <|
  zA_c (zk_V zq_98 zw_782 rfl (by decide +kernel)) <|
  zA_c (zk_S zq_92 zw_783 (by decide +kernel)) <|
  zA_c (zOk_fl zn_aload (zs_aload_n (q := 0) rfl (by decide +kernel))) <|
  zA_c (zOk_fl zn_iload (zs_iload_n (q := 1) rfl (by decide +kernel))) <|
  zA_c (zk_V zq_96 zw_789 rfl (by decide +kernel)) <|
  zA_c (zOk_fl zn_aload (zs_aload_n (q := 0) rfl (by decide +kernel))) <|
  zA_c (zOk_fl zn_iload (zs_iload_n (q := 1) rfl (by decide +kernel))) <|
  zA_c (zk_V zq_97 zw_790 rfl (by decide +kernel)) <|
  zA_c (zOk_fl zn_iload (zs_iload_n (q := 2) rfl (by decide +kernel))) <|
  zA_c (zk_S zq_119 zw_791 (by decide +kernel)) <|
  zA_c (zs_iret (by decide +kernel) rfl) <|
  zA_n
def zc_118 : Nat → zmI := zgetC [zcl_118_0]
theorem zmf_118 (l : Launch) : zMf l zc_118 118 := ⟨by decide +kernel, false, (fun h => by cases h), fun pc => zgetC_ok (zA2_c (zmc_118_0 l) (zA2_n)) pc⟩
def zcl_119_0 : List (Nat × zmI) := [(0, zm_push 1 0), (1, zm_istore 3 4), (3, zm_push 5 16), (5, zm_istore 7 5), (7, zm_iload 9 5), (9, zm_ifle 12 48), (12, zm_iload 13 0), (13, zm_iload 15 5), (15, zm_bin 16 z_and), (16, zm_ifne 19 22), (19, zm_goto 39), (22, zm_iload 24 4), (24, zm_iload 25 3), (25, zm_icne 28 36), (28, zm_iload 30 5), (30, zm_iload 31 1), (31, zm_iload 32 2)]
theorem zmc_119_0 (l : Launch) : zAll l "ChessWire$Saying" prog_10_method_11_code 6 false (some .int) zcl_119_0 :=
  zA_c (zOk_fl zn_push (zs_iconst (n := 0) (by decide +kernel) rfl)) <|
  zA_c (zOk_fl zn_istore (zs_istore (by decide +kernel))) <|
  zA_c (zOk_fl zn_push (zs_bipush (n := 16) (by decide +kernel) rfl)) <|
  zA_c (zOk_fl zn_istore (zs_istore (by decide +kernel))) <|
  zA_c (zOk_fl zn_iload (zs_iload (by decide +kernel))) <|
  zA_c (zOk_fl zn_ifle (zs_ifle (off := 39) (by decide +kernel) (by decide))) <|
  zA_c (zOk_fl zn_iload (zs_iload_n (q := 0) rfl (by decide +kernel))) <|
  zA_c (zOk_fl zn_iload (zs_iload (by decide +kernel))) <|
  zA_c (zOk_fl zn_bin (zs_iand (by decide +kernel))) <|
  zA_c (zOk_fl zn_ifne (zs_ifne (off := 6) (by decide +kernel) (by decide))) <|
  zA_c (zOk_fl zn_goto (zs_goto (off := 20) (by decide +kernel) (by decide))) <|
  zA_c (zOk_fl zn_iload (zs_iload (by decide +kernel))) <|
  zA_c (zOk_fl zn_iload (zs_iload_n (q := 3) rfl (by decide +kernel))) <|
  zA_c (zOk_fl zn_icne (zs_icne (off := 11) (by decide +kernel) (by decide))) <|
  zA_c (zOk_fl zn_iload (zs_iload (by decide +kernel))) <|
  zA_c (zOk_fl zn_iload (zs_iload_n (q := 1) rfl (by decide +kernel))) <|
  zA_c (zOk_fl zn_iload (zs_iload_n (q := 2) rfl (by decide +kernel))) <|
  zA_n
def zcl_119_1 : List (Nat × zmI) := [(32, zm_call 35 120 3 true 99), (35, zm_iret), (36, zm_iinc 39 4 1), (39, zm_iload 41 5), (41, zm_push 42 1), (42, zm_bin 43 z_shr), (43, zm_istore 45 5), (45, zm_goto 7), (48, zm_push 49 (-1)), (49, zm_iret)]
theorem zmc_119_1 (l : Launch) : zAll l "ChessWire$Saying" prog_10_method_11_code 6 false (some .int) zcl_119_1 :=
  zA_c (zk_S zq_120 zw_794 (by decide +kernel)) <|
  zA_c (zs_iret (by decide +kernel) rfl) <|
  zA_c (zOk_fl zn_iinc (zs_iinc rfl (by decide +kernel))) <|
  zA_c (zOk_fl zn_iload (zs_iload (by decide +kernel))) <|
  zA_c (zOk_fl zn_push (zs_iconst (n := 1) (by decide +kernel) rfl)) <|
  zA_c (zOk_fl zn_bin (zs_ishr (by decide +kernel))) <|
  zA_c (zOk_fl zn_istore (zs_istore (by decide +kernel))) <|
  zA_c (zOk_fl zn_goto (zs_goto (off := (-38)) (by decide +kernel) (by decide))) <|
  zA_c (zOk_fl zn_push (zs_iconst (n := (-1)) (by decide +kernel) rfl)) <|
  zA_c (zs_iret (by decide +kernel) rfl) <|
  zA_n
def zc_119 : Nat → zmI := zgetC [zcl_119_0, zcl_119_1]
theorem zmf_119 (l : Launch) : zMf l zc_119 119 := ⟨by decide +kernel, false, (fun h => by cases h), fun pc => zgetC_ok (zA2_c (zmc_119_0 l) (zA2_c (zmc_119_1 l) (zA2_n))) pc⟩
def zcl_120_0 : List (Nat × zmI) := [(0, zm_iload 1 0), (1, zm_lsw 81 [(2, 73), (4, 62), (8, 51), (16, 44)])]
theorem zmc_120_0 (l : Launch) : zAll l "ChessWire$Saying" prog_10_method_12_code 3 false (some .int) zcl_120_0 :=
  zA_c (zOk_fl zn_iload (zs_iload_n (q := 0) rfl (by decide +kernel))) <|
  zA_c (zOk_fl zn_lsw (zs_lsw (d0 := 80) (ps := #[(2, 72), (4, 61), (8, 50), (16, 43)]) (len := 43) (by decide +kernel) (by decide) (by decide) (by decide +kernel))) <|
  zA_n
def zcl_120_1 : List (Nat × zmI) := [(44, zm_iload 45 1), (45, zm_push 46 1), (46, zm_bin 47 (fun x y => w32 (x + y))), (47, zm_call 50 64 1 true 99), (50, zm_iret), (51, zm_push 53 97), (53, zm_iload 54 2), (54, zm_push 56 6), (56, zm_bin 57 z_shr), (57, zm_push 59 7), (59, zm_bin 60 z_and), (60, zm_bin 61 (fun x y => w32 (x + y))), (61, zm_iret), (62, zm_push 64 49)]
theorem zmc_120_1 (l : Launch) : zAll l "ChessWire$Saying" prog_10_method_12_code 3 false (some .int) zcl_120_1 :=
  zA_c (zOk_fl zn_iload (zs_iload_n (q := 1) rfl (by decide +kernel))) <|
  zA_c (zOk_fl zn_push (zs_iconst (n := 1) (by decide +kernel) rfl)) <|
  zA_c (zOk_fl zn_bin (zs_iadd (by decide +kernel))) <|
  zA_c (zk_S zq_64 zw_797 (by decide +kernel)) <|
  zA_c (zs_iret (by decide +kernel) rfl) <|
  zA_c (zOk_fl zn_push (zs_bipush (n := 97) (by decide +kernel) rfl)) <|
  zA_c (zOk_fl zn_iload (zs_iload_n (q := 2) rfl (by decide +kernel))) <|
  zA_c (zOk_fl zn_push (zs_bipush (n := 6) (by decide +kernel) rfl)) <|
  zA_c (zOk_fl zn_bin (zs_ishr (by decide +kernel))) <|
  zA_c (zOk_fl zn_push (zs_bipush (n := 7) (by decide +kernel) rfl)) <|
  zA_c (zOk_fl zn_bin (zs_iand (by decide +kernel))) <|
  zA_c (zOk_fl zn_bin (zs_iadd (by decide +kernel))) <|
  zA_c (zs_iret (by decide +kernel) rfl) <|
  zA_c (zOk_fl zn_push (zs_bipush (n := 49) (by decide +kernel) rfl)) <|
  zA_n
def zcl_120_2 : List (Nat × zmI) := [(64, zm_iload 65 2), (65, zm_push 67 9), (67, zm_bin 68 z_shr), (68, zm_push 70 7), (70, zm_bin 71 z_and), (71, zm_bin 72 (fun x y => w32 (x + y))), (72, zm_iret), (73, zm_push 75 97), (75, zm_iload 76 2), (76, zm_push 78 7), (78, zm_bin 79 z_and), (79, zm_bin 80 (fun x y => w32 (x + y))), (80, zm_iret), (81, zm_push 83 49), (83, zm_iload 84 2), (84, zm_push 85 3), (85, zm_bin 86 z_shr), (86, zm_push 88 7), (88, zm_bin 89 z_and), (89, zm_bin 90 (fun x y => w32 (x + y))), (90, zm_iret)]
theorem zmc_120_2 (l : Launch) : zAll l "ChessWire$Saying" prog_10_method_12_code 3 false (some .int) zcl_120_2 :=
  zA_c (zOk_fl zn_iload (zs_iload_n (q := 2) rfl (by decide +kernel))) <|
  zA_c (zOk_fl zn_push (zs_bipush (n := 9) (by decide +kernel) rfl)) <|
  zA_c (zOk_fl zn_bin (zs_ishr (by decide +kernel))) <|
  zA_c (zOk_fl zn_push (zs_bipush (n := 7) (by decide +kernel) rfl)) <|
  zA_c (zOk_fl zn_bin (zs_iand (by decide +kernel))) <|
  zA_c (zOk_fl zn_bin (zs_iadd (by decide +kernel))) <|
  zA_c (zs_iret (by decide +kernel) rfl) <|
  zA_c (zOk_fl zn_push (zs_bipush (n := 97) (by decide +kernel) rfl)) <|
  zA_c (zOk_fl zn_iload (zs_iload_n (q := 2) rfl (by decide +kernel))) <|
  zA_c (zOk_fl zn_push (zs_bipush (n := 7) (by decide +kernel) rfl)) <|
  zA_c (zOk_fl zn_bin (zs_iand (by decide +kernel))) <|
  zA_c (zOk_fl zn_bin (zs_iadd (by decide +kernel))) <|
  zA_c (zs_iret (by decide +kernel) rfl) <|
  zA_c (zOk_fl zn_push (zs_bipush (n := 49) (by decide +kernel) rfl)) <|
  zA_c (zOk_fl zn_iload (zs_iload_n (q := 2) rfl (by decide +kernel))) <|
  zA_c (zOk_fl zn_push (zs_iconst (n := 3) (by decide +kernel) rfl)) <|
  zA_c (zOk_fl zn_bin (zs_ishr (by decide +kernel))) <|
  zA_c (zOk_fl zn_push (zs_bipush (n := 7) (by decide +kernel) rfl)) <|
  zA_c (zOk_fl zn_bin (zs_iand (by decide +kernel))) <|
  zA_c (zOk_fl zn_bin (zs_iadd (by decide +kernel))) <|
  zA_c (zs_iret (by decide +kernel) rfl) <|
  zA_n
def zc_120 : Nat → zmI := zgetC [zcl_120_0, zcl_120_1, zcl_120_2]
theorem zmf_120 (l : Launch) : zMf l zc_120 120 := ⟨by decide +kernel, false, (fun h => by cases h), fun pc => zgetC_ok (zA2_c (zmc_120_0 l) (zA2_c (zmc_120_1 l) (zA2_c (zmc_120_2 l) (zA2_n)))) pc⟩
def zcl_121_0 : List (Nat × zmI) := [(0, zm_aload 1 0), (1, zm_call 4 74 1 false 0), (4, zm_push 5 0), (5, zm_istore 6 1), (6, zm_push 7 0), (7, zm_istore 8 2), (8, zm_iload 9 2), (9, zm_aload 10 0), (10, zm_getR 13 0 5), (13, zm_call 16 90 1 true 5), (16, zm_icge 19 36), (19, zm_iload 20 1), (20, zm_aload 21 0), (21, zm_getR 24 0 5), (24, zm_iload 25 2), (25, zm_call 28 117 2 true 5), (28, zm_bin 29 (fun x y => w32 (x + y))), (29, zm_istore 30 1), (30, zm_iinc 33 2 1)]
theorem zmc_121_0 (l : Launch) : zAll l "ChessWire" prog_1_method_14_code 3 false (some .int) zcl_121_0 :=
  zA_c (zOk_fl zn_aload (zs_aload_n (q := 0) rfl (by decide +kernel))) <|
  zA_c (zk_V zq_74 zw_593 rfl (by decide +kernel)) <|
  zA_c (zOk_fl zn_push (zs_iconst (n := 0) (by decide +kernel) rfl)) <|
  zA_c (zOk_fl zn_istore (zs_istore_n (q := 1) rfl (by decide +kernel))) <|
  zA_c (zOk_fl zn_push (zs_iconst (n := 0) (by decide +kernel) rfl)) <|
  zA_c (zOk_fl zn_istore (zs_istore_n (q := 2) rfl (by decide +kernel))) <|
  zA_c (zOk_fl zn_iload (zs_iload_n (q := 2) rfl (by decide +kernel))) <|
  zA_c (zOk_fl zn_aload (zs_aload_n (q := 0) rfl (by decide +kernel))) <|
  zA_c (zOk_fl zn_getR (zs_getR (k := 5) rfl (by decide) (by decide +kernel) rfl (by decide +kernel) zw_308)) <|
  zA_c (zk_V zq_90 zw_708 rfl (by decide +kernel)) <|
  zA_c (zOk_fl zn_icge (zs_icge (off := 20) (by decide +kernel) (by decide))) <|
  zA_c (zOk_fl zn_iload (zs_iload_n (q := 1) rfl (by decide +kernel))) <|
  zA_c (zOk_fl zn_aload (zs_aload_n (q := 0) rfl (by decide +kernel))) <|
  zA_c (zOk_fl zn_getR (zs_getR (k := 5) rfl (by decide) (by decide +kernel) rfl (by decide +kernel) zw_308)) <|
  zA_c (zOk_fl zn_iload (zs_iload_n (q := 2) rfl (by decide +kernel))) <|
  zA_c (zk_V zq_117 zw_778 rfl (by decide +kernel)) <|
  zA_c (zOk_fl zn_bin (zs_iadd (by decide +kernel))) <|
  zA_c (zOk_fl zn_istore (zs_istore_n (q := 1) rfl (by decide +kernel))) <|
  zA_c (zOk_fl zn_iinc (zs_iinc rfl (by decide +kernel))) <|
  zA_n
def zcl_121_1 : List (Nat × zmI) := [(33, zm_goto 8), (36, zm_iload 37 1), (37, zm_iret)]
theorem zmc_121_1 (l : Launch) : zAll l "ChessWire" prog_1_method_14_code 3 false (some .int) zcl_121_1 :=
  zA_c (zOk_fl zn_goto (zs_goto (off := (-25)) (by decide +kernel) (by decide))) <|
  zA_c (zOk_fl zn_iload (zs_iload_n (q := 1) rfl (by decide +kernel))) <|
  zA_c (zs_iret (by decide +kernel) rfl) <|
  zA_n
def zc_121 : Nat → zmI := zgetC [zcl_121_0, zcl_121_1]
theorem zmf_121 (l : Launch) : zMf l zc_121 121 := ⟨by decide +kernel, false, (fun h => by cases h), fun pc => zgetC_ok (zA2_c (zmc_121_0 l) (zA2_c (zmc_121_1 l) (zA2_n))) pc⟩
def zcl_122_0 : List (Nat × zmI) := [(0, zm_iload 1 1), (1, zm_push 2 (-1)), (2, zm_icge 5 8), (5, zm_push 7 (-2)), (7, zm_iret), (8, zm_aload 9 0), (9, zm_call 12 74 1 false 0), (12, zm_aload 13 0), (13, zm_getR 16 0 4), (16, zm_aload 17 0), (17, zm_getR 20 0 0), (20, zm_push 21 1), (21, zm_aald 22 103), (22, zm_push 23 0), (23, zm_aload 24 0), (24, zm_getR 27 0 0), (27, zm_push 28 1), (28, zm_aald 29 103), (29, zm_call 32 22 1 true 1)]
theorem zmc_122_0 (l : Launch) : zAll l "ChessWire" prog_1_method_15_code 4 false (some .int) zcl_122_0 :=
  zA_c (zOk_fl zn_iload (zs_iload_n (q := 1) rfl (by decide +kernel))) <|
  zA_c (zOk_fl zn_push (zs_iconst (n := (-1)) (by decide +kernel) rfl)) <|
  zA_c (zOk_fl zn_icge (zs_icge (off := 6) (by decide +kernel) (by decide))) <|
  zA_c (zOk_fl zn_push (zs_bipush (n := (-2)) (by decide +kernel) rfl)) <|
  zA_c (zs_iret (by decide +kernel) rfl) <|
  zA_c (zOk_fl zn_aload (zs_aload_n (q := 0) rfl (by decide +kernel))) <|
  zA_c (zk_V zq_74 zw_593 rfl (by decide +kernel)) <|
  zA_c (zOk_fl zn_aload (zs_aload_n (q := 0) rfl (by decide +kernel))) <|
  zA_c (zOk_fl zn_getR (zs_getR (k := 4) rfl (by decide) (by decide +kernel) rfl (by decide +kernel) zw_307)) <|
  zA_c (zOk_fl zn_aload (zs_aload_n (q := 0) rfl (by decide +kernel))) <|
  zA_c (zOk_fl zn_getR (zs_getR (k := 0) rfl (by decide) (by decide +kernel) rfl (by decide +kernel) zw_303)) <|
  zA_c (zOk_fl zn_push (zs_iconst (n := 1) (by decide +kernel) rfl)) <|
  zA_c (zOk_fl zn_aald (zs_aald (t := 3) (by decide) (by decide) rfl rfl (by decide +kernel))) <|
  zA_c (zOk_fl zn_push (zs_iconst (n := 0) (by decide +kernel) rfl)) <|
  zA_c (zOk_fl zn_aload (zs_aload_n (q := 0) rfl (by decide +kernel))) <|
  zA_c (zOk_fl zn_getR (zs_getR (k := 0) rfl (by decide) (by decide +kernel) rfl (by decide +kernel) zw_303)) <|
  zA_c (zOk_fl zn_push (zs_iconst (n := 1) (by decide +kernel) rfl)) <|
  zA_c (zOk_fl zn_aald (zs_aald (t := 3) (by decide) (by decide) rfl rfl (by decide +kernel))) <|
  zA_c (zk_V zq_22 zw_511 rfl (by decide +kernel)) <|
  zA_n
def zcl_122_1 : List (Nat × zmI) := [(32, zm_call 35 123 4 false 4), (35, zm_push 36 0), (36, zm_istore 37 2), (37, zm_push 38 0), (38, zm_istore 39 3), (39, zm_iload 40 3), (40, zm_aload 41 0), (41, zm_getR 44 0 5), (44, zm_call 47 90 1 true 5), (47, zm_icge 50 99), (50, zm_aload 51 0), (51, zm_getR 54 0 4), (54, zm_aload 55 0), (55, zm_getR 58 0 5), (58, zm_iload 59 3), (59, zm_call 62 96 2 true 5), (62, zm_aload 63 0), (63, zm_getR 66 0 5)]
theorem zmc_122_1 (l : Launch) : zAll l "ChessWire" prog_1_method_15_code 4 false (some .int) zcl_122_1 :=
  zA_c (zk_V zq_123 zw_806 rfl (by decide +kernel)) <|
  zA_c (zOk_fl zn_push (zs_iconst (n := 0) (by decide +kernel) rfl)) <|
  zA_c (zOk_fl zn_istore (zs_istore_n (q := 2) rfl (by decide +kernel))) <|
  zA_c (zOk_fl zn_push (zs_iconst (n := 0) (by decide +kernel) rfl)) <|
  zA_c (zOk_fl zn_istore (zs_istore_n (q := 3) rfl (by decide +kernel))) <|
  zA_c (zOk_fl zn_iload (zs_iload_n (q := 3) rfl (by decide +kernel))) <|
  zA_c (zOk_fl zn_aload (zs_aload_n (q := 0) rfl (by decide +kernel))) <|
  zA_c (zOk_fl zn_getR (zs_getR (k := 5) rfl (by decide) (by decide +kernel) rfl (by decide +kernel) zw_308)) <|
  zA_c (zk_V zq_90 zw_708 rfl (by decide +kernel)) <|
  zA_c (zOk_fl zn_icge (zs_icge (off := 52) (by decide +kernel) (by decide))) <|
  zA_c (zOk_fl zn_aload (zs_aload_n (q := 0) rfl (by decide +kernel))) <|
  zA_c (zOk_fl zn_getR (zs_getR (k := 4) rfl (by decide) (by decide +kernel) rfl (by decide +kernel) zw_307)) <|
  zA_c (zOk_fl zn_aload (zs_aload_n (q := 0) rfl (by decide +kernel))) <|
  zA_c (zOk_fl zn_getR (zs_getR (k := 5) rfl (by decide) (by decide +kernel) rfl (by decide +kernel) zw_308)) <|
  zA_c (zOk_fl zn_iload (zs_iload_n (q := 3) rfl (by decide +kernel))) <|
  zA_c (zk_V zq_96 zw_814 rfl (by decide +kernel)) <|
  zA_c (zOk_fl zn_aload (zs_aload_n (q := 0) rfl (by decide +kernel))) <|
  zA_c (zOk_fl zn_getR (zs_getR (k := 5) rfl (by decide) (by decide +kernel) rfl (by decide +kernel) zw_308)) <|
  zA_n
def zcl_122_2 : List (Nat × zmI) := [(66, zm_iload 67 3), (67, zm_call 70 97 2 true 5), (70, zm_call 73 85 3 true 4), (73, zm_ifeq 76 93), (76, zm_iload 77 2), (77, zm_iload 78 1), (78, zm_icne 81 90), (81, zm_aload 82 0), (82, zm_getR 85 0 5), (85, zm_iload 86 3), (86, zm_call 89 97 2 true 5), (89, zm_iret), (90, zm_iinc 93 2 1), (93, zm_iinc 96 3 1)]
theorem zmc_122_2 (l : Launch) : zAll l "ChessWire" prog_1_method_15_code 4 false (some .int) zcl_122_2 :=
  zA_c (zOk_fl zn_iload (zs_iload_n (q := 3) rfl (by decide +kernel))) <|
  zA_c (zk_V zq_97 zw_709 rfl (by decide +kernel)) <|
  zA_c (zk_V zq_85 zw_815 rfl (by decide +kernel)) <|
  zA_c (zOk_fl zn_ifeq (zs_ifeq (off := 20) (by decide +kernel) (by decide))) <|
  zA_c (zOk_fl zn_iload (zs_iload_n (q := 2) rfl (by decide +kernel))) <|
  zA_c (zOk_fl zn_iload (zs_iload_n (q := 1) rfl (by decide +kernel))) <|
  zA_c (zOk_fl zn_icne (zs_icne (off := 12) (by decide +kernel) (by decide))) <|
  zA_c (zOk_fl zn_aload (zs_aload_n (q := 0) rfl (by decide +kernel))) <|
  zA_c (zOk_fl zn_getR (zs_getR (k := 5) rfl (by decide) (by decide +kernel) rfl (by decide +kernel) zw_308)) <|
  zA_c (zOk_fl zn_iload (zs_iload_n (q := 3) rfl (by decide +kernel))) <|
  zA_c (zk_V zq_97 zw_709 rfl (by decide +kernel)) <|
  zA_c (zs_iret (by decide +kernel) rfl) <|
  zA_c (zOk_fl zn_iinc (zs_iinc rfl (by decide +kernel))) <|
  zA_c (zOk_fl zn_iinc (zs_iinc rfl (by decide +kernel))) <|
  zA_n
def zcl_122_3 : List (Nat × zmI) := [(96, zm_goto 39), (99, zm_iload 100 1), (100, zm_push 101 (-1)), (101, zm_icne 104 108), (104, zm_iload 105 2), (105, zm_goto 109), (108, zm_push 109 (-1)), (109, zm_iret)]
theorem zmc_122_3 (l : Launch) : zAll l "ChessWire" prog_1_method_15_code 4 false (some .int) zcl_122_3 :=
  zA_c (zOk_fl zn_goto (zs_goto (off := (-57)) (by decide +kernel) (by decide))) <|
  zA_c (zOk_fl zn_iload (zs_iload_n (q := 1) rfl (by decide +kernel))) <|
  zA_c (zOk_fl zn_push (zs_iconst (n := (-1)) (by decide +kernel) rfl)) <|
  zA_c (zOk_fl zn_icne (zs_icne (off := 7) (by decide +kernel) (by decide))) <|
  zA_c (zOk_fl zn_iload (zs_iload_n (q := 2) rfl (by decide +kernel))) <|
  zA_c (zOk_fl zn_goto (zs_goto (off := 4) (by decide +kernel) (by decide))) <|
  zA_c (zOk_fl zn_push (zs_iconst (n := (-1)) (by decide +kernel) rfl)) <|
  zA_c (zs_iret (by decide +kernel) rfl) <|
  zA_n
def zc_122 : Nat → zmI := zgetC [zcl_122_0, zcl_122_1, zcl_122_2, zcl_122_3]
theorem zmf_122 (l : Launch) : zMf l zc_122 122 := ⟨by decide +kernel, false, (fun h => by cases h), fun pc => zgetC_ok (zA2_c (zmc_122_0 l) (zA2_c (zmc_122_1 l) (zA2_c (zmc_122_2 l) (zA2_c (zmc_122_3 l) (zA2_n))))) pc⟩
def zcl_123_0 : List (Nat × zmI) := [(0, zm_aload 1 0), (1, zm_push 2 0), (2, zm_putI 5 4 0), (5, zm_aload 6 0), (6, zm_push 7 0), (7, zm_putI 10 4 1), (10, zm_push 11 0), (11, zm_istore 13 4), (13, zm_iload 14 2), (14, zm_istore 16 5), (16, zm_iload 18 5), (18, zm_iload 19 3), (19, zm_icge 22 88), (22, zm_aload 23 1), (23, zm_iload 25 5), (25, zm_call 28 23 2 true 1), (28, zm_istore 30 6), (30, zm_iload 32 4)]
theorem zmc_123_0 (l : Launch) : zAll l "ChessWire$Saying" prog_10_method_7_code 7 false (none) zcl_123_0 :=
  zA_c (zOk_fl zn_aload (zs_aload_n (q := 0) rfl (by decide +kernel))) <|
  zA_c (zOk_fl zn_push (zs_iconst (n := 0) (by decide +kernel) rfl)) <|
  zA_c (zOk_sn zn_putI (zs_putI (k := 0) rfl (by decide) (by decide +kernel) rfl rfl (by decide +kernel) zw_91)) <|
  zA_c (zOk_fl zn_aload (zs_aload_n (q := 0) rfl (by decide +kernel))) <|
  zA_c (zOk_fl zn_push (zs_iconst (n := 0) (by decide +kernel) rfl)) <|
  zA_c (zOk_sn zn_putI (zs_putI (k := 1) rfl (by decide) (by decide +kernel) rfl rfl (by decide +kernel) zw_92)) <|
  zA_c (zOk_fl zn_push (zs_iconst (n := 0) (by decide +kernel) rfl)) <|
  zA_c (zOk_fl zn_istore (zs_istore (by decide +kernel))) <|
  zA_c (zOk_fl zn_iload (zs_iload_n (q := 2) rfl (by decide +kernel))) <|
  zA_c (zOk_fl zn_istore (zs_istore (by decide +kernel))) <|
  zA_c (zOk_fl zn_iload (zs_iload (by decide +kernel))) <|
  zA_c (zOk_fl zn_iload (zs_iload_n (q := 3) rfl (by decide +kernel))) <|
  zA_c (zOk_fl zn_icge (zs_icge (off := 69) (by decide +kernel) (by decide))) <|
  zA_c (zOk_fl zn_aload (zs_aload_n (q := 1) rfl (by decide +kernel))) <|
  zA_c (zOk_fl zn_iload (zs_iload (by decide +kernel))) <|
  zA_c (zk_V zq_23 zw_529 rfl (by decide +kernel)) <|
  zA_c (zOk_fl zn_istore (zs_istore (by decide +kernel))) <|
  zA_c (zOk_fl zn_iload (zs_iload (by decide +kernel))) <|
  zA_n
def zcl_123_1 : List (Nat × zmI) := [(32, zm_iload 34 6), (34, zm_call 37 57 2 true 99), (37, zm_istore 39 4), (39, zm_iload 41 4), (41, zm_push 42 1), (42, zm_icne 45 65), (45, zm_aload 46 0), (46, zm_push 48 16), (48, zm_putI 51 4 0), (51, zm_aload 52 0), (52, zm_iload 54 6), (54, zm_call 57 27 1 true 99), (57, zm_push 58 1), (58, zm_bin 59 (fun x y => w32 (x - y))), (59, zm_putI 62 4 1), (62, zm_goto 82)]
theorem zmc_123_1 (l : Launch) : zAll l "ChessWire$Saying" prog_10_method_7_code 7 false (none) zcl_123_1 :=
  zA_c (zOk_fl zn_iload (zs_iload (by decide +kernel))) <|
  zA_c (zk_S zq_57 zw_530 (by decide +kernel)) <|
  zA_c (zOk_fl zn_istore (zs_istore (by decide +kernel))) <|
  zA_c (zOk_fl zn_iload (zs_iload (by decide +kernel))) <|
  zA_c (zOk_fl zn_push (zs_iconst (n := 1) (by decide +kernel) rfl)) <|
  zA_c (zOk_fl zn_icne (zs_icne (off := 23) (by decide +kernel) (by decide))) <|
  zA_c (zOk_fl zn_aload (zs_aload_n (q := 0) rfl (by decide +kernel))) <|
  zA_c (zOk_fl zn_push (zs_bipush (n := 16) (by decide +kernel) rfl)) <|
  zA_c (zOk_sn zn_putI (zs_putI (k := 0) rfl (by decide) (by decide +kernel) rfl rfl (by decide +kernel) zw_91)) <|
  zA_c (zOk_fl zn_aload (zs_aload_n (q := 0) rfl (by decide +kernel))) <|
  zA_c (zOk_fl zn_iload (zs_iload (by decide +kernel))) <|
  zA_c (zk_S zq_27 zw_539 (by decide +kernel)) <|
  zA_c (zOk_fl zn_push (zs_iconst (n := 1) (by decide +kernel) rfl)) <|
  zA_c (zOk_fl zn_bin (zs_isub (by decide +kernel))) <|
  zA_c (zOk_sn zn_putI (zs_putI (k := 1) rfl (by decide) (by decide +kernel) rfl rfl (by decide +kernel) zw_92)) <|
  zA_c (zOk_fl zn_goto (zs_goto (off := 20) (by decide +kernel) (by decide))) <|
  zA_n
def zcl_123_2 : List (Nat × zmI) := [(65, zm_iload 67 4), (67, zm_push 69 7), (69, zm_iceq 72 82), (72, zm_aload 73 0), (73, zm_iload 75 6), (75, zm_iload 76 3), (76, zm_iload 78 5), (78, zm_bin 79 (fun x y => w32 (x - y))), (79, zm_call 82 124 3 false 4), (82, zm_iinc 85 5 1), (85, zm_goto 16), (88, zm_aload 89 0), (89, zm_iload 91 4), (91, zm_call 94 60 1 true 99), (94, zm_putZ 97 4 2)]
theorem zmc_123_2 (l : Launch) : zAll l "ChessWire$Saying" prog_10_method_7_code 7 false (none) zcl_123_2 :=
  zA_c (zOk_fl zn_iload (zs_iload (by decide +kernel))) <|
  zA_c (zOk_fl zn_push (zs_bipush (n := 7) (by decide +kernel) rfl)) <|
  zA_c (zOk_fl zn_iceq (zs_iceq (off := 13) (by decide +kernel) (by decide))) <|
  zA_c (zOk_fl zn_aload (zs_aload_n (q := 0) rfl (by decide +kernel))) <|
  zA_c (zOk_fl zn_iload (zs_iload (by decide +kernel))) <|
  zA_c (zOk_fl zn_iload (zs_iload_n (q := 3) rfl (by decide +kernel))) <|
  zA_c (zOk_fl zn_iload (zs_iload (by decide +kernel))) <|
  zA_c (zOk_fl zn_bin (zs_isub (by decide +kernel))) <|
  zA_c (zk_V zq_124 zw_810 rfl (by decide +kernel)) <|
  zA_c (zOk_fl zn_iinc (zs_iinc rfl (by decide +kernel))) <|
  zA_c (zOk_fl zn_goto (zs_goto (off := (-69)) (by decide +kernel) (by decide))) <|
  zA_c (zOk_fl zn_aload (zs_aload_n (q := 0) rfl (by decide +kernel))) <|
  zA_c (zOk_fl zn_iload (zs_iload (by decide +kernel))) <|
  zA_c (zk_S zq_60 zw_540 (by decide +kernel)) <|
  zA_c (zOk_sn zn_putZ (zs_putZ (k := 2) rfl (by decide) (by decide +kernel) rfl rfl (by decide +kernel) zw_93)) <|
  zA_n
def zcl_123_3 : List (Nat × zmI) := [(97, zm_vret)]
theorem zmc_123_3 (l : Launch) : zAll l "ChessWire$Saying" prog_10_method_7_code 7 false (none) zcl_123_3 :=
  zA_c (zs_vret (by decide +kernel) rfl) <|
  zA_n
def zc_123 : Nat → zmI := zgetC [zcl_123_0, zcl_123_1, zcl_123_2, zcl_123_3]
theorem zmf_123 (l : Launch) : zMf l zc_123 123 := ⟨by decide +kernel, false, (fun h => by cases h), fun pc => zgetC_ok (zA2_c (zmc_123_0 l) (zA2_c (zmc_123_1 l) (zA2_c (zmc_123_2 l) (zA2_c (zmc_123_3 l) (zA2_n))))) pc⟩
def zcl_124_0 : List (Nat × zmI) := [(0, zm_iload 1 1), (1, zm_call 4 58 1 true 99), (4, zm_istore 5 3), (5, zm_iload 6 2), (6, zm_push 7 2), (7, zm_icle 10 32), (10, zm_aload 11 0), (11, zm_dup 12), (12, zm_getI 15 4 0), (15, zm_iload 16 3), (16, zm_ifeq 19 24), (19, zm_push 21 8), (21, zm_goto 25), (24, zm_push 25 4), (25, zm_bin 26 z_or), (26, zm_putI 29 4 0), (29, zm_goto 50)]
theorem zmc_124_0 (l : Launch) : zAll l "ChessWire$Saying" prog_10_method_8_code 4 false (none) zcl_124_0 :=
  zA_c (zOk_fl zn_iload (zs_iload_n (q := 1) rfl (by decide +kernel))) <|
  zA_c (zk_S zq_58 zw_533 (by decide +kernel)) <|
  zA_c (zOk_fl zn_istore (zs_istore_n (q := 3) rfl (by decide +kernel))) <|
  zA_c (zOk_fl zn_iload (zs_iload_n (q := 2) rfl (by decide +kernel))) <|
  zA_c (zOk_fl zn_push (zs_iconst (n := 2) (by decide +kernel) rfl)) <|
  zA_c (zOk_fl zn_icle (zs_icle (off := 25) (by decide +kernel) (by decide))) <|
  zA_c (zOk_fl zn_aload (zs_aload_n (q := 0) rfl (by decide +kernel))) <|
  zA_c (zOk_fl zn_dup (zs_dup (by decide +kernel))) <|
  zA_c (zOk_fl zn_getI (zs_getI (k := 0) rfl (by decide) (by decide +kernel) rfl (by decide +kernel) zw_91)) <|
  zA_c (zOk_fl zn_iload (zs_iload_n (q := 3) rfl (by decide +kernel))) <|
  zA_c (zOk_fl zn_ifeq (zs_ifeq (off := 8) (by decide +kernel) (by decide))) <|
  zA_c (zOk_fl zn_push (zs_bipush (n := 8) (by decide +kernel) rfl)) <|
  zA_c (zOk_fl zn_goto (zs_goto (off := 4) (by decide +kernel) (by decide))) <|
  zA_c (zOk_fl zn_push (zs_iconst (n := 4) (by decide +kernel) rfl)) <|
  zA_c (zOk_fl zn_bin (zs_ior (by decide +kernel))) <|
  zA_c (zOk_sn zn_putI (zs_putI (k := 0) rfl (by decide) (by decide +kernel) rfl rfl (by decide +kernel) zw_91)) <|
  zA_c (zOk_fl zn_goto (zs_goto (off := 21) (by decide +kernel) (by decide))) <|
  zA_n
def zcl_124_1 : List (Nat × zmI) := [(32, zm_aload 33 0), (33, zm_dup 34), (34, zm_getI 37 4 0), (37, zm_iload 38 3), (38, zm_ifeq 41 45), (41, zm_push 42 2), (42, zm_goto 46), (45, zm_push 46 1), (46, zm_bin 47 z_or), (47, zm_putI 50 4 0), (50, zm_aload 51 0), (51, zm_aload 52 0), (52, zm_getI 55 4 1), (55, zm_push 57 8), (57, zm_bin 58 (fun x y => w32 (x * y))), (58, zm_iload 59 3), (59, zm_ifeq 62 69), (62, zm_iload 63 1), (63, zm_push 65 97)]
theorem zmc_124_1 (l : Launch) : zAll l "ChessWire$Saying" prog_10_method_8_code 4 false (none) zcl_124_1 :=
  zA_c (zOk_fl zn_aload (zs_aload_n (q := 0) rfl (by decide +kernel))) <|
  zA_c (zOk_fl zn_dup (zs_dup (by decide +kernel))) <|
  zA_c (zOk_fl zn_getI (zs_getI (k := 0) rfl (by decide) (by decide +kernel) rfl (by decide +kernel) zw_91)) <|
  zA_c (zOk_fl zn_iload (zs_iload_n (q := 3) rfl (by decide +kernel))) <|
  zA_c (zOk_fl zn_ifeq (zs_ifeq (off := 7) (by decide +kernel) (by decide))) <|
  zA_c (zOk_fl zn_push (zs_iconst (n := 2) (by decide +kernel) rfl)) <|
  zA_c (zOk_fl zn_goto (zs_goto (off := 4) (by decide +kernel) (by decide))) <|
  zA_c (zOk_fl zn_push (zs_iconst (n := 1) (by decide +kernel) rfl)) <|
  zA_c (zOk_fl zn_bin (zs_ior (by decide +kernel))) <|
  zA_c (zOk_sn zn_putI (zs_putI (k := 0) rfl (by decide) (by decide +kernel) rfl rfl (by decide +kernel) zw_91)) <|
  zA_c (zOk_fl zn_aload (zs_aload_n (q := 0) rfl (by decide +kernel))) <|
  zA_c (zOk_fl zn_aload (zs_aload_n (q := 0) rfl (by decide +kernel))) <|
  zA_c (zOk_fl zn_getI (zs_getI (k := 1) rfl (by decide) (by decide +kernel) rfl (by decide +kernel) zw_92)) <|
  zA_c (zOk_fl zn_push (zs_bipush (n := 8) (by decide +kernel) rfl)) <|
  zA_c (zOk_fl zn_bin (zs_imul (by decide +kernel))) <|
  zA_c (zOk_fl zn_iload (zs_iload_n (q := 3) rfl (by decide +kernel))) <|
  zA_c (zOk_fl zn_ifeq (zs_ifeq (off := 10) (by decide +kernel) (by decide))) <|
  zA_c (zOk_fl zn_iload (zs_iload_n (q := 1) rfl (by decide +kernel))) <|
  zA_c (zOk_fl zn_push (zs_bipush (n := 97) (by decide +kernel) rfl)) <|
  zA_n
def zcl_124_2 : List (Nat × zmI) := [(65, zm_bin 66 (fun x y => w32 (x - y))), (66, zm_goto 73), (69, zm_iload 70 1), (70, zm_push 72 49), (72, zm_bin 73 (fun x y => w32 (x - y))), (73, zm_bin 74 (fun x y => w32 (x + y))), (74, zm_putI 77 4 1), (77, zm_vret)]
theorem zmc_124_2 (l : Launch) : zAll l "ChessWire$Saying" prog_10_method_8_code 4 false (none) zcl_124_2 :=
  zA_c (zOk_fl zn_bin (zs_isub (by decide +kernel))) <|
  zA_c (zOk_fl zn_goto (zs_goto (off := 7) (by decide +kernel) (by decide))) <|
  zA_c (zOk_fl zn_iload (zs_iload_n (q := 1) rfl (by decide +kernel))) <|
  zA_c (zOk_fl zn_push (zs_bipush (n := 49) (by decide +kernel) rfl)) <|
  zA_c (zOk_fl zn_bin (zs_isub (by decide +kernel))) <|
  zA_c (zOk_fl zn_bin (zs_iadd (by decide +kernel))) <|
  zA_c (zOk_sn zn_putI (zs_putI (k := 1) rfl (by decide) (by decide +kernel) rfl rfl (by decide +kernel) zw_92)) <|
  zA_c (zs_vret (by decide +kernel) rfl) <|
  zA_n
def zc_124 : Nat → zmI := zgetC [zcl_124_0, zcl_124_1, zcl_124_2]
theorem zmf_124 (l : Launch) : zMf l zc_124 124 := ⟨by decide +kernel, false, (fun h => by cases h), fun pc => zgetC_ok (zA2_c (zmc_124_0 l) (zA2_c (zmc_124_1 l) (zA2_c (zmc_124_2 l) (zA2_n)))) pc⟩
def zcl_125_0 : List (Nat × zmI) := [(0, zm_iload 1 1), (1, zm_push 2 (-1)), (2, zm_icge 5 8), (5, zm_push 7 (-2)), (7, zm_iret), (8, zm_aload 9 0), (9, zm_call 12 74 1 false 0), (12, zm_push 13 0), (13, zm_istore 14 2), (14, zm_push 15 0), (15, zm_istore 16 3), (16, zm_iload 17 3), (17, zm_aload 18 0), (18, zm_getR 21 0 5), (21, zm_call 24 90 1 true 5), (24, zm_icge 27 58), (27, zm_aload 28 0), (28, zm_iload 29 3), (29, zm_call 32 126 2 true 0)]
theorem zmc_125_0 (l : Launch) : zAll l "ChessWire" prog_1_method_16_code 4 false (some .int) zcl_125_0 :=
  zA_c (zOk_fl zn_iload (zs_iload_n (q := 1) rfl (by decide +kernel))) <|
  zA_c (zOk_fl zn_push (zs_iconst (n := (-1)) (by decide +kernel) rfl)) <|
  zA_c (zOk_fl zn_icge (zs_icge (off := 6) (by decide +kernel) (by decide))) <|
  zA_c (zOk_fl zn_push (zs_bipush (n := (-2)) (by decide +kernel) rfl)) <|
  zA_c (zs_iret (by decide +kernel) rfl) <|
  zA_c (zOk_fl zn_aload (zs_aload_n (q := 0) rfl (by decide +kernel))) <|
  zA_c (zk_V zq_74 zw_593 rfl (by decide +kernel)) <|
  zA_c (zOk_fl zn_push (zs_iconst (n := 0) (by decide +kernel) rfl)) <|
  zA_c (zOk_fl zn_istore (zs_istore_n (q := 2) rfl (by decide +kernel))) <|
  zA_c (zOk_fl zn_push (zs_iconst (n := 0) (by decide +kernel) rfl)) <|
  zA_c (zOk_fl zn_istore (zs_istore_n (q := 3) rfl (by decide +kernel))) <|
  zA_c (zOk_fl zn_iload (zs_iload_n (q := 3) rfl (by decide +kernel))) <|
  zA_c (zOk_fl zn_aload (zs_aload_n (q := 0) rfl (by decide +kernel))) <|
  zA_c (zOk_fl zn_getR (zs_getR (k := 5) rfl (by decide) (by decide +kernel) rfl (by decide +kernel) zw_308)) <|
  zA_c (zk_V zq_90 zw_708 rfl (by decide +kernel)) <|
  zA_c (zOk_fl zn_icge (zs_icge (off := 34) (by decide +kernel) (by decide))) <|
  zA_c (zOk_fl zn_aload (zs_aload_n (q := 0) rfl (by decide +kernel))) <|
  zA_c (zOk_fl zn_iload (zs_iload_n (q := 3) rfl (by decide +kernel))) <|
  zA_c (zk_V zq_126 zw_820 rfl (by decide +kernel)) <|
  zA_n
def zcl_125_1 : List (Nat × zmI) := [(32, zm_ifeq 35 52), (35, zm_iload 36 2), (36, zm_iload 37 1), (37, zm_icne 40 49), (40, zm_aload 41 0), (41, zm_getR 44 0 5), (44, zm_iload 45 3), (45, zm_call 48 97 2 true 5), (48, zm_iret), (49, zm_iinc 52 2 1), (52, zm_iinc 55 3 1), (55, zm_goto 16), (58, zm_iload 59 1), (59, zm_push 60 (-1)), (60, zm_icne 63 67), (63, zm_iload 64 2)]
theorem zmc_125_1 (l : Launch) : zAll l "ChessWire" prog_1_method_16_code 4 false (some .int) zcl_125_1 :=
  zA_c (zOk_fl zn_ifeq (zs_ifeq (off := 20) (by decide +kernel) (by decide))) <|
  zA_c (zOk_fl zn_iload (zs_iload_n (q := 2) rfl (by decide +kernel))) <|
  zA_c (zOk_fl zn_iload (zs_iload_n (q := 1) rfl (by decide +kernel))) <|
  zA_c (zOk_fl zn_icne (zs_icne (off := 12) (by decide +kernel) (by decide))) <|
  zA_c (zOk_fl zn_aload (zs_aload_n (q := 0) rfl (by decide +kernel))) <|
  zA_c (zOk_fl zn_getR (zs_getR (k := 5) rfl (by decide) (by decide +kernel) rfl (by decide +kernel) zw_308)) <|
  zA_c (zOk_fl zn_iload (zs_iload_n (q := 3) rfl (by decide +kernel))) <|
  zA_c (zk_V zq_97 zw_709 rfl (by decide +kernel)) <|
  zA_c (zs_iret (by decide +kernel) rfl) <|
  zA_c (zOk_fl zn_iinc (zs_iinc rfl (by decide +kernel))) <|
  zA_c (zOk_fl zn_iinc (zs_iinc rfl (by decide +kernel))) <|
  zA_c (zOk_fl zn_goto (zs_goto (off := (-39)) (by decide +kernel) (by decide))) <|
  zA_c (zOk_fl zn_iload (zs_iload_n (q := 1) rfl (by decide +kernel))) <|
  zA_c (zOk_fl zn_push (zs_iconst (n := (-1)) (by decide +kernel) rfl)) <|
  zA_c (zOk_fl zn_icne (zs_icne (off := 7) (by decide +kernel) (by decide))) <|
  zA_c (zOk_fl zn_iload (zs_iload_n (q := 2) rfl (by decide +kernel))) <|
  zA_n
def zcl_125_2 : List (Nat × zmI) := [(64, zm_goto 68), (67, zm_push 68 (-1)), (68, zm_iret)]
theorem zmc_125_2 (l : Launch) : zAll l "ChessWire" prog_1_method_16_code 4 false (some .int) zcl_125_2 :=
  zA_c (zOk_fl zn_goto (zs_goto (off := 4) (by decide +kernel) (by decide))) <|
  zA_c (zOk_fl zn_push (zs_iconst (n := (-1)) (by decide +kernel) rfl)) <|
  zA_c (zs_iret (by decide +kernel) rfl) <|
  zA_n
def zc_125 : Nat → zmI := zgetC [zcl_125_0, zcl_125_1, zcl_125_2]
theorem zmf_125 (l : Launch) : zMf l zc_125 125 := ⟨by decide +kernel, false, (fun h => by cases h), fun pc => zgetC_ok (zA2_c (zmc_125_0 l) (zA2_c (zmc_125_1 l) (zA2_c (zmc_125_2 l) (zA2_n)))) pc⟩
def zcl_126_0 : List (Nat × zmI) := [(0, zm_aload 1 0), (1, zm_getR 4 0 0), (4, zm_push 5 1), (5, zm_aald 6 103), (6, zm_astore 7 2), (7, zm_aload 8 0), (8, zm_getR 11 0 5), (11, zm_iload 12 1), (12, zm_call 15 117 2 true 5), (15, zm_aload 16 2), (16, zm_call 19 22 1 true 1), (19, zm_iceq 22 24), (22, zm_push 23 0), (23, zm_zret), (24, zm_push 25 0), (25, zm_istore 26 3), (26, zm_push 27 0), (27, zm_istore 29 4), (29, zm_iload 31 4), (31, zm_aload 32 2)]
theorem zmc_126_0 (l : Launch) : zAll l "ChessWire" prog_1_method_47_code 5 false (some .boolean) zcl_126_0 :=
  zA_c (zOk_fl zn_aload (zs_aload_n (q := 0) rfl (by decide +kernel))) <|
  zA_c (zOk_fl zn_getR (zs_getR (k := 0) rfl (by decide) (by decide +kernel) rfl (by decide +kernel) zw_303)) <|
  zA_c (zOk_fl zn_push (zs_iconst (n := 1) (by decide +kernel) rfl)) <|
  zA_c (zOk_fl zn_aald (zs_aald (t := 3) (by decide) (by decide) rfl rfl (by decide +kernel))) <|
  zA_c (zOk_fl zn_astore (zs_astore_n (q := 2) rfl (by decide +kernel))) <|
  zA_c (zOk_fl zn_aload (zs_aload_n (q := 0) rfl (by decide +kernel))) <|
  zA_c (zOk_fl zn_getR (zs_getR (k := 5) rfl (by decide) (by decide +kernel) rfl (by decide +kernel) zw_308)) <|
  zA_c (zOk_fl zn_iload (zs_iload_n (q := 1) rfl (by decide +kernel))) <|
  zA_c (zk_V zq_117 zw_778 rfl (by decide +kernel)) <|
  zA_c (zOk_fl zn_aload (zs_aload_n (q := 2) rfl (by decide +kernel))) <|
  zA_c (zk_V zq_22 zw_511 rfl (by decide +kernel)) <|
  zA_c (zOk_fl zn_iceq (zs_iceq (off := 5) (by decide +kernel) (by decide))) <|
  zA_c (zOk_fl zn_push (zs_iconst (n := 0) (by decide +kernel) rfl)) <|
  zA_c (zs_zret (by decide +kernel) rfl) <|
  zA_c (zOk_fl zn_push (zs_iconst (n := 0) (by decide +kernel) rfl)) <|
  zA_c (zOk_fl zn_istore (zs_istore_n (q := 3) rfl (by decide +kernel))) <|
  zA_c (zOk_fl zn_push (zs_iconst (n := 0) (by decide +kernel) rfl)) <|
  zA_c (zOk_fl zn_istore (zs_istore (by decide +kernel))) <|
  zA_c (zOk_fl zn_iload (zs_iload (by decide +kernel))) <|
  zA_c (zOk_fl zn_aload (zs_aload_n (q := 2) rfl (by decide +kernel))) <|
  zA_n
def zcl_126_1 : List (Nat × zmI) := [(32, zm_call 35 22 1 true 1), (35, zm_icge 38 66), (38, zm_aload 39 0), (39, zm_getR 42 0 5), (42, zm_iload 43 1), (43, zm_iload 45 4), (45, zm_call 48 118 3 true 5), (48, zm_aload 49 2), (49, zm_iload 51 4), (51, zm_call 54 23 2 true 1), (54, zm_iceq 57 60), (57, zm_iinc 60 3 1), (60, zm_iinc 63 4 1), (63, zm_goto 29)]
theorem zmc_126_1 (l : Launch) : zAll l "ChessWire" prog_1_method_47_code 5 false (some .boolean) zcl_126_1 :=
  zA_c (zk_V zq_22 zw_511 rfl (by decide +kernel)) <|
  zA_c (zOk_fl zn_icge (zs_icge (off := 31) (by decide +kernel) (by decide))) <|
  zA_c (zOk_fl zn_aload (zs_aload_n (q := 0) rfl (by decide +kernel))) <|
  zA_c (zOk_fl zn_getR (zs_getR (k := 5) rfl (by decide) (by decide +kernel) rfl (by decide +kernel) zw_308)) <|
  zA_c (zOk_fl zn_iload (zs_iload_n (q := 1) rfl (by decide +kernel))) <|
  zA_c (zOk_fl zn_iload (zs_iload (by decide +kernel))) <|
  zA_c (zk_V zq_118 zw_785 rfl (by decide +kernel)) <|
  zA_c (zOk_fl zn_aload (zs_aload_n (q := 2) rfl (by decide +kernel))) <|
  zA_c (zOk_fl zn_iload (zs_iload (by decide +kernel))) <|
  zA_c (zk_V zq_23 zw_824 rfl (by decide +kernel)) <|
  zA_c (zOk_fl zn_iceq (zs_iceq (off := 6) (by decide +kernel) (by decide))) <|
  zA_c (zOk_fl zn_iinc (zs_iinc rfl (by decide +kernel))) <|
  zA_c (zOk_fl zn_iinc (zs_iinc rfl (by decide +kernel))) <|
  zA_c (zOk_fl zn_goto (zs_goto (off := (-34)) (by decide +kernel) (by decide))) <|
  zA_n
def zcl_126_2 : List (Nat × zmI) := [(66, zm_iload 67 3), (67, zm_push 68 1), (68, zm_icne 71 75), (71, zm_push 72 1), (72, zm_goto 76), (75, zm_push 76 0), (76, zm_zret)]
theorem zmc_126_2 (l : Launch) : zAll l "ChessWire" prog_1_method_47_code 5 false (some .boolean) zcl_126_2 :=
  zA_c (zOk_fl zn_iload (zs_iload_n (q := 3) rfl (by decide +kernel))) <|
  zA_c (zOk_fl zn_push (zs_iconst (n := 1) (by decide +kernel) rfl)) <|
  zA_c (zOk_fl zn_icne (zs_icne (off := 7) (by decide +kernel) (by decide))) <|
  zA_c (zOk_fl zn_push (zs_iconst (n := 1) (by decide +kernel) rfl)) <|
  zA_c (zOk_fl zn_goto (zs_goto (off := 4) (by decide +kernel) (by decide))) <|
  zA_c (zOk_fl zn_push (zs_iconst (n := 0) (by decide +kernel) rfl)) <|
  zA_c (zs_zret (by decide +kernel) rfl) <|
  zA_n
def zc_126 : Nat → zmI := zgetC [zcl_126_0, zcl_126_1, zcl_126_2]
theorem zmf_126 (l : Launch) : zMf l zc_126 126 := ⟨by decide +kernel, false, (fun h => by cases h), fun pc => zgetC_ok (zA2_c (zmc_126_0 l) (zA2_c (zmc_126_1 l) (zA2_c (zmc_126_2 l) (zA2_n)))) pc⟩
def zcl_127_0 : List (Nat × zmI) := [(0, zm_iload 1 1), (1, zm_iflt 4 20), (4, zm_iload 5 1), (5, zm_push 7 6), (7, zm_icge 10 20), (10, zm_iload 11 2), (11, zm_iflt 14 20), (14, zm_iload 15 2), (15, zm_push 17 9), (17, zm_icle 20 23), (20, zm_push 22 (-2)), (22, zm_iret), (23, zm_aload 24 0), (24, zm_getR 27 0 7), (27, zm_iload 28 1), (28, zm_ald 29 100), (29, zm_istore 30 3), (30, zm_aload 31 0), (31, zm_getR 34 0 7)]
theorem zmc_127_0 (l : Launch) : zAll l "ChessWire" prog_1_method_17_code 4 false (some .int) zcl_127_0 :=
  zA_c (zOk_fl zn_iload (zs_iload_n (q := 1) rfl (by decide +kernel))) <|
  zA_c (zOk_fl zn_iflt (zs_iflt (off := 19) (by decide +kernel) (by decide))) <|
  zA_c (zOk_fl zn_iload (zs_iload_n (q := 1) rfl (by decide +kernel))) <|
  zA_c (zOk_fl zn_push (zs_bipush (n := 6) (by decide +kernel) rfl)) <|
  zA_c (zOk_fl zn_icge (zs_icge (off := 13) (by decide +kernel) (by decide))) <|
  zA_c (zOk_fl zn_iload (zs_iload_n (q := 2) rfl (by decide +kernel))) <|
  zA_c (zOk_fl zn_iflt (zs_iflt (off := 9) (by decide +kernel) (by decide))) <|
  zA_c (zOk_fl zn_iload (zs_iload_n (q := 2) rfl (by decide +kernel))) <|
  zA_c (zOk_fl zn_push (zs_bipush (n := 9) (by decide +kernel) rfl)) <|
  zA_c (zOk_fl zn_icle (zs_icle (off := 6) (by decide +kernel) (by decide))) <|
  zA_c (zOk_fl zn_push (zs_bipush (n := (-2)) (by decide +kernel) rfl)) <|
  zA_c (zs_iret (by decide +kernel) rfl) <|
  zA_c (zOk_fl zn_aload (zs_aload_n (q := 0) rfl (by decide +kernel))) <|
  zA_c (zOk_fl zn_getR (zs_getR (k := 7) rfl (by decide) (by decide +kernel) rfl (by decide +kernel) zw_310)) <|
  zA_c (zOk_fl zn_iload (zs_iload_n (q := 1) rfl (by decide +kernel))) <|
  zA_c (zOk_fl zn_ald (zs_iald (by decide +kernel))) <|
  zA_c (zOk_fl zn_istore (zs_istore_n (q := 3) rfl (by decide +kernel))) <|
  zA_c (zOk_fl zn_aload (zs_aload_n (q := 0) rfl (by decide +kernel))) <|
  zA_c (zOk_fl zn_getR (zs_getR (k := 7) rfl (by decide) (by decide +kernel) rfl (by decide +kernel) zw_310)) <|
  zA_n
def zcl_127_1 : List (Nat × zmI) := [(34, zm_iload 35 1), (35, zm_iload 36 2), (36, zm_iast 37), (37, zm_iload 38 3), (38, zm_iret)]
theorem zmc_127_1 (l : Launch) : zAll l "ChessWire" prog_1_method_17_code 4 false (some .int) zcl_127_1 :=
  zA_c (zOk_fl zn_iload (zs_iload_n (q := 1) rfl (by decide +kernel))) <|
  zA_c (zOk_fl zn_iload (zs_iload_n (q := 2) rfl (by decide +kernel))) <|
  zA_c (zOk_sn zn_iast (zs_iast (by decide +kernel))) <|
  zA_c (zOk_fl zn_iload (zs_iload_n (q := 3) rfl (by decide +kernel))) <|
  zA_c (zs_iret (by decide +kernel) rfl) <|
  zA_n
def zc_127 : Nat → zmI := zgetC [zcl_127_0, zcl_127_1]
theorem zmf_127 (l : Launch) : zMf l zc_127 127 := ⟨by decide +kernel, false, (fun h => by cases h), fun pc => zgetC_ok (zA2_c (zmc_127_0 l) (zA2_c (zmc_127_1 l) (zA2_n))) pc⟩
def zcl_128_0 : List (Nat × zmI) := [(0, zm_iload 1 1), (1, zm_push 2 2), (2, zm_iclt 5 11), (5, zm_iload 6 1), (6, zm_push 8 26), (8, zm_icle 11 14), (11, zm_push 13 (-2)), (13, zm_iret), (14, zm_aload 15 0), (15, zm_call 18 74 1 false 0), (18, zm_aload 19 0), (19, zm_getR 22 0 8), (22, zm_aload 23 0), (23, zm_getR 26 0 5), (26, zm_aload 27 0), (27, zm_getR 30 0 7), (30, zm_iload 31 1), (31, zm_call 34 129 4 true 7)]
theorem zmc_128_0 (l : Launch) : zAll l "ChessWire" prog_1_method_18_code 2 false (some .int) zcl_128_0 :=
  zA_c (zOk_fl zn_iload (zs_iload_n (q := 1) rfl (by decide +kernel))) <|
  zA_c (zOk_fl zn_push (zs_iconst (n := 2) (by decide +kernel) rfl)) <|
  zA_c (zOk_fl zn_iclt (zs_iclt (off := 9) (by decide +kernel) (by decide))) <|
  zA_c (zOk_fl zn_iload (zs_iload_n (q := 1) rfl (by decide +kernel))) <|
  zA_c (zOk_fl zn_push (zs_bipush (n := 26) (by decide +kernel) rfl)) <|
  zA_c (zOk_fl zn_icle (zs_icle (off := 6) (by decide +kernel) (by decide))) <|
  zA_c (zOk_fl zn_push (zs_bipush (n := (-2)) (by decide +kernel) rfl)) <|
  zA_c (zs_iret (by decide +kernel) rfl) <|
  zA_c (zOk_fl zn_aload (zs_aload_n (q := 0) rfl (by decide +kernel))) <|
  zA_c (zk_V zq_74 zw_593 rfl (by decide +kernel)) <|
  zA_c (zOk_fl zn_aload (zs_aload_n (q := 0) rfl (by decide +kernel))) <|
  zA_c (zOk_fl zn_getR (zs_getR (k := 8) rfl (by decide) (by decide +kernel) rfl (by decide +kernel) zw_311)) <|
  zA_c (zOk_fl zn_aload (zs_aload_n (q := 0) rfl (by decide +kernel))) <|
  zA_c (zOk_fl zn_getR (zs_getR (k := 5) rfl (by decide) (by decide +kernel) rfl (by decide +kernel) zw_308)) <|
  zA_c (zOk_fl zn_aload (zs_aload_n (q := 0) rfl (by decide +kernel))) <|
  zA_c (zOk_fl zn_getR (zs_getR (k := 7) rfl (by decide) (by decide +kernel) rfl (by decide +kernel) zw_310)) <|
  zA_c (zOk_fl zn_iload (zs_iload_n (q := 1) rfl (by decide +kernel))) <|
  zA_c (zk_V zq_129 zw_833 rfl (by decide +kernel)) <|
  zA_n
def zcl_128_1 : List (Nat × zmI) := [(34, zm_iret)]
theorem zmc_128_1 (l : Launch) : zAll l "ChessWire" prog_1_method_18_code 2 false (some .int) zcl_128_1 :=
  zA_c (zs_iret (by decide +kernel) rfl) <|
  zA_n
def zc_128 : Nat → zmI := zgetC [zcl_128_0, zcl_128_1]
theorem zmf_128 (l : Launch) : zMf l zc_128 128 := ⟨by decide +kernel, false, (fun h => by cases h), fun pc => zgetC_ok (zA2_c (zmc_128_0 l) (zA2_c (zmc_128_1 l) (zA2_n))) pc⟩
def zcl_129_0 : List (Nat × zmI) := [(0, zm_iload 1 3), (1, zm_push 2 1), (2, zm_bin 3 (fun x y => w32 (x - y))), (3, zm_istore 5 4), (5, zm_aload 6 1), (6, zm_call 9 90 1 true 5), (9, zm_push 10 2), (10, zm_iclt 13 19), (13, zm_iload 15 4), (15, zm_push 16 1), (16, zm_icge 19 21), (19, zm_push 20 0), (20, zm_iret), (21, zm_iload 23 4), (23, zm_aload 24 1), (24, zm_call 27 90 1 true 5), (27, zm_push 28 1), (28, zm_bin 29 (fun x y => w32 (x - y))), (29, zm_iload 31 4), (31, zm_quo 32 z_rem)]
theorem zmc_129_0 (l : Launch) : zAll l "ChessWire$Coder" prog_4_method_2_code 10 false (some .int) zcl_129_0 :=
  zA_c (zOk_fl zn_iload (zs_iload_n (q := 3) rfl (by decide +kernel))) <|
  zA_c (zOk_fl zn_push (zs_iconst (n := 1) (by decide +kernel) rfl)) <|
  zA_c (zOk_fl zn_bin (zs_isub (by decide +kernel))) <|
  zA_c (zOk_fl zn_istore (zs_istore (by decide +kernel))) <|
  zA_c (zOk_fl zn_aload (zs_aload_n (q := 1) rfl (by decide +kernel))) <|
  zA_c (zk_V zq_90 zw_837 rfl (by decide +kernel)) <|
  zA_c (zOk_fl zn_push (zs_iconst (n := 2) (by decide +kernel) rfl)) <|
  zA_c (zOk_fl zn_iclt (zs_iclt (off := 9) (by decide +kernel) (by decide))) <|
  zA_c (zOk_fl zn_iload (zs_iload (by decide +kernel))) <|
  zA_c (zOk_fl zn_push (zs_iconst (n := 1) (by decide +kernel) rfl)) <|
  zA_c (zOk_fl zn_icge (zs_icge (off := 5) (by decide +kernel) (by decide))) <|
  zA_c (zOk_fl zn_push (zs_iconst (n := 0) (by decide +kernel) rfl)) <|
  zA_c (zs_iret (by decide +kernel) rfl) <|
  zA_c (zOk_fl zn_iload (zs_iload (by decide +kernel))) <|
  zA_c (zOk_fl zn_aload (zs_aload_n (q := 1) rfl (by decide +kernel))) <|
  zA_c (zk_V zq_90 zw_837 rfl (by decide +kernel)) <|
  zA_c (zOk_fl zn_push (zs_iconst (n := 1) (by decide +kernel) rfl)) <|
  zA_c (zOk_fl zn_bin (zs_isub (by decide +kernel))) <|
  zA_c (zOk_fl zn_iload (zs_iload (by decide +kernel))) <|
  zA_c (zOk_fl zn_quo (zs_irem (by decide +kernel))) <|
  zA_n
def zcl_129_1 : List (Nat × zmI) := [(32, zm_bin 33 (fun x y => w32 (x - y))), (33, zm_iload 35 4), (35, zm_quo 36 z_rem), (36, zm_istore 38 5), (38, zm_aload 39 0), (39, zm_aload 40 1), (40, zm_aload 41 2), (41, zm_iload 43 5), (43, zm_call 46 130 4 false 7), (46, zm_push 47 0), (47, zm_istore 49 6), (49, zm_aload 50 0), (50, zm_getI 53 7 2), (53, zm_push 54 1), (54, zm_bin 55 (fun x y => w32 (x - y))), (55, zm_istore 57 7), (57, zm_iload 59 7), (59, zm_ifle 62 139), (62, zm_push 63 0), (63, zm_istore 65 8)]
theorem zmc_129_1 (l : Launch) : zAll l "ChessWire$Coder" prog_4_method_2_code 10 false (some .int) zcl_129_1 :=
  zA_c (zOk_fl zn_bin (zs_isub (by decide +kernel))) <|
  zA_c (zOk_fl zn_iload (zs_iload (by decide +kernel))) <|
  zA_c (zOk_fl zn_quo (zs_irem (by decide +kernel))) <|
  zA_c (zOk_fl zn_istore (zs_istore (by decide +kernel))) <|
  zA_c (zOk_fl zn_aload (zs_aload_n (q := 0) rfl (by decide +kernel))) <|
  zA_c (zOk_fl zn_aload (zs_aload_n (q := 1) rfl (by decide +kernel))) <|
  zA_c (zOk_fl zn_aload (zs_aload_n (q := 2) rfl (by decide +kernel))) <|
  zA_c (zOk_fl zn_iload (zs_iload (by decide +kernel))) <|
  zA_c (zk_V zq_130 zw_838 rfl (by decide +kernel)) <|
  zA_c (zOk_fl zn_push (zs_iconst (n := 0) (by decide +kernel) rfl)) <|
  zA_c (zOk_fl zn_istore (zs_istore (by decide +kernel))) <|
  zA_c (zOk_fl zn_aload (zs_aload_n (q := 0) rfl (by decide +kernel))) <|
  zA_c (zOk_fl zn_getI (zs_getI (k := 2) rfl (by decide) (by decide +kernel) rfl (by decide +kernel) zw_139)) <|
  zA_c (zOk_fl zn_push (zs_iconst (n := 1) (by decide +kernel) rfl)) <|
  zA_c (zOk_fl zn_bin (zs_isub (by decide +kernel))) <|
  zA_c (zOk_fl zn_istore (zs_istore (by decide +kernel))) <|
  zA_c (zOk_fl zn_iload (zs_iload (by decide +kernel))) <|
  zA_c (zOk_fl zn_ifle (zs_ifle (off := 80) (by decide +kernel) (by decide))) <|
  zA_c (zOk_fl zn_push (zs_iconst (n := 0) (by decide +kernel) rfl)) <|
  zA_c (zOk_fl zn_istore (zs_istore (by decide +kernel))) <|
  zA_n
def zcl_129_2 : List (Nat × zmI) := [(65, zm_push 66 0), (66, zm_istore 68 9), (68, zm_iload 70 9), (70, zm_iload 71 3), (71, zm_icge 74 89), (74, zm_iload 76 8), (76, zm_aload 77 0), (77, zm_call 80 133 1 true 7), (80, zm_bin 81 (fun x y => w32 (x + y))), (81, zm_istore 83 8), (83, zm_iinc 86 9 1), (86, zm_goto 68), (89, zm_iload 91 6), (91, zm_iload 93 8), (93, zm_bin 94 (fun x y => w32 (x + y))), (94, zm_istore 96 6)]
theorem zmc_129_2 (l : Launch) : zAll l "ChessWire$Coder" prog_4_method_2_code 10 false (some .int) zcl_129_2 :=
  zA_c (zOk_fl zn_push (zs_iconst (n := 0) (by decide +kernel) rfl)) <|
  zA_c (zOk_fl zn_istore (zs_istore (by decide +kernel))) <|
  zA_c (zOk_fl zn_iload (zs_iload (by decide +kernel))) <|
  zA_c (zOk_fl zn_iload (zs_iload_n (q := 3) rfl (by decide +kernel))) <|
  zA_c (zOk_fl zn_icge (zs_icge (off := 18) (by decide +kernel) (by decide))) <|
  zA_c (zOk_fl zn_iload (zs_iload (by decide +kernel))) <|
  zA_c (zOk_fl zn_aload (zs_aload_n (q := 0) rfl (by decide +kernel))) <|
  zA_c (zk_V zq_133 zw_850 rfl (by decide +kernel)) <|
  zA_c (zOk_fl zn_bin (zs_iadd (by decide +kernel))) <|
  zA_c (zOk_fl zn_istore (zs_istore (by decide +kernel))) <|
  zA_c (zOk_fl zn_iinc (zs_iinc rfl (by decide +kernel))) <|
  zA_c (zOk_fl zn_goto (zs_goto (off := (-18)) (by decide +kernel) (by decide))) <|
  zA_c (zOk_fl zn_iload (zs_iload (by decide +kernel))) <|
  zA_c (zOk_fl zn_iload (zs_iload (by decide +kernel))) <|
  zA_c (zOk_fl zn_bin (zs_iadd (by decide +kernel))) <|
  zA_c (zOk_fl zn_istore (zs_istore (by decide +kernel))) <|
  zA_n
def zcl_129_3 : List (Nat × zmI) := [(96, zm_aload 97 0), (97, zm_getI 100 7 3), (100, zm_aload 101 0), (101, zm_getR 104 7 1), (104, zm_alen 105), (105, zm_icge 108 129), (108, zm_aload 109 0), (109, zm_getR 112 7 1), (112, zm_aload 113 0), (113, zm_getI 116 7 3), (116, zm_iload 118 8), (118, zm_iast 119), (119, zm_aload 120 0), (120, zm_dup 121), (121, zm_getI 124 7 3), (124, zm_push 125 1), (125, zm_bin 126 (fun x y => w32 (x + y))), (126, zm_putI 129 7 3)]
theorem zmc_129_3 (l : Launch) : zAll l "ChessWire$Coder" prog_4_method_2_code 10 false (some .int) zcl_129_3 :=
  zA_c (zOk_fl zn_aload (zs_aload_n (q := 0) rfl (by decide +kernel))) <|
  zA_c (zOk_fl zn_getI (zs_getI (k := 3) rfl (by decide) (by decide +kernel) rfl (by decide +kernel) zw_140)) <|
  zA_c (zOk_fl zn_aload (zs_aload_n (q := 0) rfl (by decide +kernel))) <|
  zA_c (zOk_fl zn_getR (zs_getR (k := 1) rfl (by decide) (by decide +kernel) rfl (by decide +kernel) zw_138)) <|
  zA_c (zOk_fl zn_alen (zs_alen (by decide +kernel))) <|
  zA_c (zOk_fl zn_icge (zs_icge (off := 24) (by decide +kernel) (by decide))) <|
  zA_c (zOk_fl zn_aload (zs_aload_n (q := 0) rfl (by decide +kernel))) <|
  zA_c (zOk_fl zn_getR (zs_getR (k := 1) rfl (by decide) (by decide +kernel) rfl (by decide +kernel) zw_138)) <|
  zA_c (zOk_fl zn_aload (zs_aload_n (q := 0) rfl (by decide +kernel))) <|
  zA_c (zOk_fl zn_getI (zs_getI (k := 3) rfl (by decide) (by decide +kernel) rfl (by decide +kernel) zw_140)) <|
  zA_c (zOk_fl zn_iload (zs_iload (by decide +kernel))) <|
  zA_c (zOk_sn zn_iast (zs_iast (by decide +kernel))) <|
  zA_c (zOk_fl zn_aload (zs_aload_n (q := 0) rfl (by decide +kernel))) <|
  zA_c (zOk_fl zn_dup (zs_dup (by decide +kernel))) <|
  zA_c (zOk_fl zn_getI (zs_getI (k := 3) rfl (by decide) (by decide +kernel) rfl (by decide +kernel) zw_140)) <|
  zA_c (zOk_fl zn_push (zs_iconst (n := 1) (by decide +kernel) rfl)) <|
  zA_c (zOk_fl zn_bin (zs_iadd (by decide +kernel))) <|
  zA_c (zOk_sn zn_putI (zs_putI (k := 3) rfl (by decide) (by decide +kernel) rfl rfl (by decide +kernel) zw_140)) <|
  zA_n
def zcl_129_4 : List (Nat × zmI) := [(129, zm_iload 131 7), (131, zm_iload 133 4), (133, zm_bin 134 (fun x y => w32 (x - y))), (134, zm_istore 136 7), (136, zm_goto 57), (139, zm_iload 141 6), (141, zm_iret)]
theorem zmc_129_4 (l : Launch) : zAll l "ChessWire$Coder" prog_4_method_2_code 10 false (some .int) zcl_129_4 :=
  zA_c (zOk_fl zn_iload (zs_iload (by decide +kernel))) <|
  zA_c (zOk_fl zn_iload (zs_iload (by decide +kernel))) <|
  zA_c (zOk_fl zn_bin (zs_isub (by decide +kernel))) <|
  zA_c (zOk_fl zn_istore (zs_istore (by decide +kernel))) <|
  zA_c (zOk_fl zn_goto (zs_goto (off := (-79)) (by decide +kernel) (by decide))) <|
  zA_c (zOk_fl zn_iload (zs_iload (by decide +kernel))) <|
  zA_c (zs_iret (by decide +kernel) rfl) <|
  zA_n
def zc_129 : Nat → zmI := zgetC [zcl_129_0, zcl_129_1, zcl_129_2, zcl_129_3, zcl_129_4]
theorem zmf_129 (l : Launch) : zMf l zc_129 129 := ⟨by decide +kernel, false, (fun h => by cases h), fun pc => zgetC_ok (zA2_c (zmc_129_0 l) (zA2_c (zmc_129_1 l) (zA2_c (zmc_129_2 l) (zA2_c (zmc_129_3 l) (zA2_c (zmc_129_4 l) (zA2_n)))))) pc⟩
def zcl_130_0 : List (Nat × zmI) := [(0, zm_aload 1 0), (1, zm_push 2 0), (2, zm_putI 5 7 2), (5, zm_aload 6 0), (6, zm_push 7 0), (7, zm_putI 10 7 3), (10, zm_aload 11 0), (11, zm_push 12 0), (12, zm_putI 15 7 4), (15, zm_aload 16 0), (16, zm_push 17 0), (17, zm_putI 20 7 5), (20, zm_push 21 0), (21, zm_istore 23 4), (23, zm_iload 25 4), (25, zm_iload 26 3), (26, zm_icge 29 40), (29, zm_aload 30 0), (30, zm_push 31 0), (31, zm_call 34 131 2 false 7)]
theorem zmc_130_0 (l : Launch) : zAll l "ChessWire$Coder" prog_4_method_3_code 6 false (none) zcl_130_0 :=
  zA_c (zOk_fl zn_aload (zs_aload_n (q := 0) rfl (by decide +kernel))) <|
  zA_c (zOk_fl zn_push (zs_iconst (n := 0) (by decide +kernel) rfl)) <|
  zA_c (zOk_sn zn_putI (zs_putI (k := 2) rfl (by decide) (by decide +kernel) rfl rfl (by decide +kernel) zw_139)) <|
  zA_c (zOk_fl zn_aload (zs_aload_n (q := 0) rfl (by decide +kernel))) <|
  zA_c (zOk_fl zn_push (zs_iconst (n := 0) (by decide +kernel) rfl)) <|
  zA_c (zOk_sn zn_putI (zs_putI (k := 3) rfl (by decide) (by decide +kernel) rfl rfl (by decide +kernel) zw_140)) <|
  zA_c (zOk_fl zn_aload (zs_aload_n (q := 0) rfl (by decide +kernel))) <|
  zA_c (zOk_fl zn_push (zs_iconst (n := 0) (by decide +kernel) rfl)) <|
  zA_c (zOk_sn zn_putI (zs_putI (k := 4) rfl (by decide) (by decide +kernel) rfl rfl (by decide +kernel) zw_141)) <|
  zA_c (zOk_fl zn_aload (zs_aload_n (q := 0) rfl (by decide +kernel))) <|
  zA_c (zOk_fl zn_push (zs_iconst (n := 0) (by decide +kernel) rfl)) <|
  zA_c (zOk_sn zn_putI (zs_putI (k := 5) rfl (by decide) (by decide +kernel) rfl rfl (by decide +kernel) zw_142)) <|
  zA_c (zOk_fl zn_push (zs_iconst (n := 0) (by decide +kernel) rfl)) <|
  zA_c (zOk_fl zn_istore (zs_istore (by decide +kernel))) <|
  zA_c (zOk_fl zn_iload (zs_iload (by decide +kernel))) <|
  zA_c (zOk_fl zn_iload (zs_iload_n (q := 3) rfl (by decide +kernel))) <|
  zA_c (zOk_fl zn_icge (zs_icge (off := 14) (by decide +kernel) (by decide))) <|
  zA_c (zOk_fl zn_aload (zs_aload_n (q := 0) rfl (by decide +kernel))) <|
  zA_c (zOk_fl zn_push (zs_iconst (n := 0) (by decide +kernel) rfl)) <|
  zA_c (zk_V zq_131 zw_842 rfl (by decide +kernel)) <|
  zA_n
def zcl_130_1 : List (Nat × zmI) := [(34, zm_iinc 37 4 1), (37, zm_goto 23), (40, zm_push 41 0), (41, zm_istore 43 4), (43, zm_iload 45 4), (45, zm_push 47 9), (47, zm_icgt 50 92), (50, zm_push 51 0), (51, zm_istore 53 5), (53, zm_iload 55 5), (55, zm_aload 56 1), (56, zm_call 59 90 1 true 5), (59, zm_icge 62 86), (62, zm_aload 63 1), (63, zm_iload 65 5)]
theorem zmc_130_1 (l : Launch) : zAll l "ChessWire$Coder" prog_4_method_3_code 6 false (none) zcl_130_1 :=
  zA_c (zOk_fl zn_iinc (zs_iinc rfl (by decide +kernel))) <|
  zA_c (zOk_fl zn_goto (zs_goto (off := (-14)) (by decide +kernel) (by decide))) <|
  zA_c (zOk_fl zn_push (zs_iconst (n := 0) (by decide +kernel) rfl)) <|
  zA_c (zOk_fl zn_istore (zs_istore (by decide +kernel))) <|
  zA_c (zOk_fl zn_iload (zs_iload (by decide +kernel))) <|
  zA_c (zOk_fl zn_push (zs_bipush (n := 9) (by decide +kernel) rfl)) <|
  zA_c (zOk_fl zn_icgt (zs_icgt (off := 45) (by decide +kernel) (by decide))) <|
  zA_c (zOk_fl zn_push (zs_iconst (n := 0) (by decide +kernel) rfl)) <|
  zA_c (zOk_fl zn_istore (zs_istore (by decide +kernel))) <|
  zA_c (zOk_fl zn_iload (zs_iload (by decide +kernel))) <|
  zA_c (zOk_fl zn_aload (zs_aload_n (q := 1) rfl (by decide +kernel))) <|
  zA_c (zk_V zq_90 zw_837 rfl (by decide +kernel)) <|
  zA_c (zOk_fl zn_icge (zs_icge (off := 27) (by decide +kernel) (by decide))) <|
  zA_c (zOk_fl zn_aload (zs_aload_n (q := 1) rfl (by decide +kernel))) <|
  zA_c (zOk_fl zn_iload (zs_iload (by decide +kernel))) <|
  zA_n
def zcl_130_2 : List (Nat × zmI) := [(65, zm_aload 66 2), (66, zm_call 69 132 3 true 5), (69, zm_iload 71 4), (71, zm_icne 74 80), (74, zm_aload 75 0), (75, zm_iload 77 4), (77, zm_call 80 131 2 false 7), (80, zm_iinc 83 5 1), (83, zm_goto 53), (86, zm_iinc 89 4 1), (89, zm_goto 43), (92, zm_vret)]
theorem zmc_130_2 (l : Launch) : zAll l "ChessWire$Coder" prog_4_method_3_code 6 false (none) zcl_130_2 :=
  zA_c (zOk_fl zn_aload (zs_aload_n (q := 2) rfl (by decide +kernel))) <|
  zA_c (zk_V zq_132 zw_846 rfl (by decide +kernel)) <|
  zA_c (zOk_fl zn_iload (zs_iload (by decide +kernel))) <|
  zA_c (zOk_fl zn_icne (zs_icne (off := 9) (by decide +kernel) (by decide))) <|
  zA_c (zOk_fl zn_aload (zs_aload_n (q := 0) rfl (by decide +kernel))) <|
  zA_c (zOk_fl zn_iload (zs_iload (by decide +kernel))) <|
  zA_c (zk_V zq_131 zw_842 rfl (by decide +kernel)) <|
  zA_c (zOk_fl zn_iinc (zs_iinc rfl (by decide +kernel))) <|
  zA_c (zOk_fl zn_goto (zs_goto (off := (-30)) (by decide +kernel) (by decide))) <|
  zA_c (zOk_fl zn_iinc (zs_iinc rfl (by decide +kernel))) <|
  zA_c (zOk_fl zn_goto (zs_goto (off := (-46)) (by decide +kernel) (by decide))) <|
  zA_c (zs_vret (by decide +kernel) rfl) <|
  zA_n
def zc_130 : Nat → zmI := zgetC [zcl_130_0, zcl_130_1, zcl_130_2]
theorem zmf_130 (l : Launch) : zMf l zc_130 130 := ⟨by decide +kernel, false, (fun h => by cases h), fun pc => zgetC_ok (zA2_c (zmc_130_0 l) (zA2_c (zmc_130_1 l) (zA2_c (zmc_130_2 l) (zA2_n)))) pc⟩
def zcl_131_0 : List (Nat × zmI) := [(0, zm_aload 1 0), (1, zm_getI 4 7 2), (4, zm_aload 5 0), (5, zm_getR 8 7 0), (8, zm_alen 9), (9, zm_icge 12 32), (12, zm_aload 13 0), (13, zm_getR 16 7 0), (16, zm_aload 17 0), (17, zm_getI 20 7 2), (20, zm_iload 21 1), (21, zm_iast 22), (22, zm_aload 23 0), (23, zm_dup 24), (24, zm_getI 27 7 2), (27, zm_push 28 1), (28, zm_bin 29 (fun x y => w32 (x + y))), (29, zm_putI 32 7 2)]
theorem zmc_131_0 (l : Launch) : zAll l "ChessWire$Coder" prog_4_method_4_code 2 false (none) zcl_131_0 :=
  zA_c (zOk_fl zn_aload (zs_aload_n (q := 0) rfl (by decide +kernel))) <|
  zA_c (zOk_fl zn_getI (zs_getI (k := 2) rfl (by decide) (by decide +kernel) rfl (by decide +kernel) zw_139)) <|
  zA_c (zOk_fl zn_aload (zs_aload_n (q := 0) rfl (by decide +kernel))) <|
  zA_c (zOk_fl zn_getR (zs_getR (k := 0) rfl (by decide) (by decide +kernel) rfl (by decide +kernel) zw_137)) <|
  zA_c (zOk_fl zn_alen (zs_alen (by decide +kernel))) <|
  zA_c (zOk_fl zn_icge (zs_icge (off := 23) (by decide +kernel) (by decide))) <|
  zA_c (zOk_fl zn_aload (zs_aload_n (q := 0) rfl (by decide +kernel))) <|
  zA_c (zOk_fl zn_getR (zs_getR (k := 0) rfl (by decide) (by decide +kernel) rfl (by decide +kernel) zw_137)) <|
  zA_c (zOk_fl zn_aload (zs_aload_n (q := 0) rfl (by decide +kernel))) <|
  zA_c (zOk_fl zn_getI (zs_getI (k := 2) rfl (by decide) (by decide +kernel) rfl (by decide +kernel) zw_139)) <|
  zA_c (zOk_fl zn_iload (zs_iload_n (q := 1) rfl (by decide +kernel))) <|
  zA_c (zOk_sn zn_iast (zs_iast (by decide +kernel))) <|
  zA_c (zOk_fl zn_aload (zs_aload_n (q := 0) rfl (by decide +kernel))) <|
  zA_c (zOk_fl zn_dup (zs_dup (by decide +kernel))) <|
  zA_c (zOk_fl zn_getI (zs_getI (k := 2) rfl (by decide) (by decide +kernel) rfl (by decide +kernel) zw_139)) <|
  zA_c (zOk_fl zn_push (zs_iconst (n := 1) (by decide +kernel) rfl)) <|
  zA_c (zOk_fl zn_bin (zs_iadd (by decide +kernel))) <|
  zA_c (zOk_sn zn_putI (zs_putI (k := 2) rfl (by decide) (by decide +kernel) rfl rfl (by decide +kernel) zw_139)) <|
  zA_n
def zcl_131_1 : List (Nat × zmI) := [(32, zm_vret)]
theorem zmc_131_1 (l : Launch) : zAll l "ChessWire$Coder" prog_4_method_4_code 2 false (none) zcl_131_1 :=
  zA_c (zs_vret (by decide +kernel) rfl) <|
  zA_n
def zc_131 : Nat → zmI := zgetC [zcl_131_0, zcl_131_1]
theorem zmf_131 (l : Launch) : zMf l zc_131 131 := ⟨by decide +kernel, false, (fun h => by cases h), fun pc => zgetC_ok (zA2_c (zmc_131_0 l) (zA2_c (zmc_131_1 l) (zA2_n))) pc⟩
def zcl_132_0 : List (Nat × zmI) := [(0, zm_aload 1 0), (1, zm_iload 2 1), (2, zm_call 5 96 2 true 5), (5, zm_istore 6 3), (6, zm_iload 7 3), (7, zm_iflt 10 22), (10, zm_iload 11 3), (11, zm_aload 12 2), (12, zm_alen 13), (13, zm_icge 16 22), (16, zm_aload 17 2), (17, zm_iload 18 3), (18, zm_ald 19 100), (19, zm_goto 23), (22, zm_push 23 0), (23, zm_iret)]
theorem zmc_132_0 (l : Launch) : zAll l "ChessWire$MoveList" prog_8_method_13_code 4 false (some .int) zcl_132_0 :=
  zA_c (zOk_fl zn_aload (zs_aload_n (q := 0) rfl (by decide +kernel))) <|
  zA_c (zOk_fl zn_iload (zs_iload_n (q := 1) rfl (by decide +kernel))) <|
  zA_c (zk_V zq_96 zw_789 rfl (by decide +kernel)) <|
  zA_c (zOk_fl zn_istore (zs_istore_n (q := 3) rfl (by decide +kernel))) <|
  zA_c (zOk_fl zn_iload (zs_iload_n (q := 3) rfl (by decide +kernel))) <|
  zA_c (zOk_fl zn_iflt (zs_iflt (off := 15) (by decide +kernel) (by decide))) <|
  zA_c (zOk_fl zn_iload (zs_iload_n (q := 3) rfl (by decide +kernel))) <|
  zA_c (zOk_fl zn_aload (zs_aload_n (q := 2) rfl (by decide +kernel))) <|
  zA_c (zOk_fl zn_alen (zs_alen (by decide +kernel))) <|
  zA_c (zOk_fl zn_icge (zs_icge (off := 9) (by decide +kernel) (by decide))) <|
  zA_c (zOk_fl zn_aload (zs_aload_n (q := 2) rfl (by decide +kernel))) <|
  zA_c (zOk_fl zn_iload (zs_iload_n (q := 3) rfl (by decide +kernel))) <|
  zA_c (zOk_fl zn_ald (zs_iald (by decide +kernel))) <|
  zA_c (zOk_fl zn_goto (zs_goto (off := 4) (by decide +kernel) (by decide))) <|
  zA_c (zOk_fl zn_push (zs_iconst (n := 0) (by decide +kernel) rfl)) <|
  zA_c (zs_iret (by decide +kernel) rfl) <|
  zA_n
def zc_132 : Nat → zmI := zgetC [zcl_132_0]
theorem zmf_132 (l : Launch) : zMf l zc_132 132 := ⟨by decide +kernel, false, (fun h => by cases h), fun pc => zgetC_ok (zA2_c (zmc_132_0 l) (zA2_n)) pc⟩
def zcl_133_0 : List (Nat × zmI) := [(0, zm_aload 1 0), (1, zm_getI 4 7 4), (4, zm_aload 5 0), (5, zm_getI 8 7 2), (8, zm_icge 11 15), (11, zm_push 12 1), (12, zm_goto 16), (15, zm_push 16 0), (16, zm_istore 17 1), (17, zm_aload 18 0), (18, zm_getI 21 7 5), (21, zm_aload 22 0), (22, zm_getI 25 7 3), (25, zm_icge 28 32), (28, zm_push 29 1), (29, zm_goto 33)]
theorem zmc_133_0 (l : Launch) : zAll l "ChessWire$Coder" prog_4_method_5_code 3 false (some .int) zcl_133_0 :=
  zA_c (zOk_fl zn_aload (zs_aload_n (q := 0) rfl (by decide +kernel))) <|
  zA_c (zOk_fl zn_getI (zs_getI (k := 4) rfl (by decide) (by decide +kernel) rfl (by decide +kernel) zw_141)) <|
  zA_c (zOk_fl zn_aload (zs_aload_n (q := 0) rfl (by decide +kernel))) <|
  zA_c (zOk_fl zn_getI (zs_getI (k := 2) rfl (by decide) (by decide +kernel) rfl (by decide +kernel) zw_139)) <|
  zA_c (zOk_fl zn_icge (zs_icge (off := 7) (by decide +kernel) (by decide))) <|
  zA_c (zOk_fl zn_push (zs_iconst (n := 1) (by decide +kernel) rfl)) <|
  zA_c (zOk_fl zn_goto (zs_goto (off := 4) (by decide +kernel) (by decide))) <|
  zA_c (zOk_fl zn_push (zs_iconst (n := 0) (by decide +kernel) rfl)) <|
  zA_c (zOk_fl zn_istore (zs_istore_n (q := 1) rfl (by decide +kernel))) <|
  zA_c (zOk_fl zn_aload (zs_aload_n (q := 0) rfl (by decide +kernel))) <|
  zA_c (zOk_fl zn_getI (zs_getI (k := 5) rfl (by decide) (by decide +kernel) rfl (by decide +kernel) zw_142)) <|
  zA_c (zOk_fl zn_aload (zs_aload_n (q := 0) rfl (by decide +kernel))) <|
  zA_c (zOk_fl zn_getI (zs_getI (k := 3) rfl (by decide) (by decide +kernel) rfl (by decide +kernel) zw_140)) <|
  zA_c (zOk_fl zn_icge (zs_icge (off := 7) (by decide +kernel) (by decide))) <|
  zA_c (zOk_fl zn_push (zs_iconst (n := 1) (by decide +kernel) rfl)) <|
  zA_c (zOk_fl zn_goto (zs_goto (off := 4) (by decide +kernel) (by decide))) <|
  zA_n
def zcl_133_1 : List (Nat × zmI) := [(32, zm_push 33 0), (33, zm_istore 34 2), (34, zm_iload 35 1), (35, zm_ifeq 38 85), (38, zm_iload 39 2), (39, zm_ifeq 42 63), (42, zm_aload 43 0), (43, zm_getR 46 7 0), (46, zm_aload 47 0), (47, zm_getI 50 7 4), (50, zm_ald 51 100), (51, zm_aload 52 0), (52, zm_getR 55 7 1), (55, zm_aload 56 0), (56, zm_getI 59 7 5), (59, zm_ald 60 100), (60, zm_icgt 63 85), (63, zm_aload 64 0)]
theorem zmc_133_1 (l : Launch) : zAll l "ChessWire$Coder" prog_4_method_5_code 3 false (some .int) zcl_133_1 :=
  zA_c (zOk_fl zn_push (zs_iconst (n := 0) (by decide +kernel) rfl)) <|
  zA_c (zOk_fl zn_istore (zs_istore_n (q := 2) rfl (by decide +kernel))) <|
  zA_c (zOk_fl zn_iload (zs_iload_n (q := 1) rfl (by decide +kernel))) <|
  zA_c (zOk_fl zn_ifeq (zs_ifeq (off := 50) (by decide +kernel) (by decide))) <|
  zA_c (zOk_fl zn_iload (zs_iload_n (q := 2) rfl (by decide +kernel))) <|
  zA_c (zOk_fl zn_ifeq (zs_ifeq (off := 24) (by decide +kernel) (by decide))) <|
  zA_c (zOk_fl zn_aload (zs_aload_n (q := 0) rfl (by decide +kernel))) <|
  zA_c (zOk_fl zn_getR (zs_getR (k := 0) rfl (by decide) (by decide +kernel) rfl (by decide +kernel) zw_137)) <|
  zA_c (zOk_fl zn_aload (zs_aload_n (q := 0) rfl (by decide +kernel))) <|
  zA_c (zOk_fl zn_getI (zs_getI (k := 4) rfl (by decide) (by decide +kernel) rfl (by decide +kernel) zw_141)) <|
  zA_c (zOk_fl zn_ald (zs_iald (by decide +kernel))) <|
  zA_c (zOk_fl zn_aload (zs_aload_n (q := 0) rfl (by decide +kernel))) <|
  zA_c (zOk_fl zn_getR (zs_getR (k := 1) rfl (by decide) (by decide +kernel) rfl (by decide +kernel) zw_138)) <|
  zA_c (zOk_fl zn_aload (zs_aload_n (q := 0) rfl (by decide +kernel))) <|
  zA_c (zOk_fl zn_getI (zs_getI (k := 5) rfl (by decide) (by decide +kernel) rfl (by decide +kernel) zw_142)) <|
  zA_c (zOk_fl zn_ald (zs_iald (by decide +kernel))) <|
  zA_c (zOk_fl zn_icgt (zs_icgt (off := 25) (by decide +kernel) (by decide))) <|
  zA_c (zOk_fl zn_aload (zs_aload_n (q := 0) rfl (by decide +kernel))) <|
  zA_n
def zcl_133_2 : List (Nat × zmI) := [(64, zm_dup 65), (65, zm_getI 68 7 4), (68, zm_push 69 1), (69, zm_bin 70 (fun x y => w32 (x + y))), (70, zm_putI 73 7 4), (73, zm_aload 74 0), (74, zm_getR 77 7 0), (77, zm_aload 78 0), (78, zm_getI 81 7 4), (81, zm_push 82 1), (82, zm_bin 83 (fun x y => w32 (x - y))), (83, zm_ald 84 100), (84, zm_iret), (85, zm_iload 86 2), (86, zm_ifeq 89 111), (89, zm_aload 90 0), (90, zm_dup 91), (91, zm_getI 94 7 5), (94, zm_push 95 1), (95, zm_bin 96 (fun x y => w32 (x + y)))]
theorem zmc_133_2 (l : Launch) : zAll l "ChessWire$Coder" prog_4_method_5_code 3 false (some .int) zcl_133_2 :=
  zA_c (zOk_fl zn_dup (zs_dup (by decide +kernel))) <|
  zA_c (zOk_fl zn_getI (zs_getI (k := 4) rfl (by decide) (by decide +kernel) rfl (by decide +kernel) zw_141)) <|
  zA_c (zOk_fl zn_push (zs_iconst (n := 1) (by decide +kernel) rfl)) <|
  zA_c (zOk_fl zn_bin (zs_iadd (by decide +kernel))) <|
  zA_c (zOk_sn zn_putI (zs_putI (k := 4) rfl (by decide) (by decide +kernel) rfl rfl (by decide +kernel) zw_141)) <|
  zA_c (zOk_fl zn_aload (zs_aload_n (q := 0) rfl (by decide +kernel))) <|
  zA_c (zOk_fl zn_getR (zs_getR (k := 0) rfl (by decide) (by decide +kernel) rfl (by decide +kernel) zw_137)) <|
  zA_c (zOk_fl zn_aload (zs_aload_n (q := 0) rfl (by decide +kernel))) <|
  zA_c (zOk_fl zn_getI (zs_getI (k := 4) rfl (by decide) (by decide +kernel) rfl (by decide +kernel) zw_141)) <|
  zA_c (zOk_fl zn_push (zs_iconst (n := 1) (by decide +kernel) rfl)) <|
  zA_c (zOk_fl zn_bin (zs_isub (by decide +kernel))) <|
  zA_c (zOk_fl zn_ald (zs_iald (by decide +kernel))) <|
  zA_c (zs_iret (by decide +kernel) rfl) <|
  zA_c (zOk_fl zn_iload (zs_iload_n (q := 2) rfl (by decide +kernel))) <|
  zA_c (zOk_fl zn_ifeq (zs_ifeq (off := 25) (by decide +kernel) (by decide))) <|
  zA_c (zOk_fl zn_aload (zs_aload_n (q := 0) rfl (by decide +kernel))) <|
  zA_c (zOk_fl zn_dup (zs_dup (by decide +kernel))) <|
  zA_c (zOk_fl zn_getI (zs_getI (k := 5) rfl (by decide) (by decide +kernel) rfl (by decide +kernel) zw_142)) <|
  zA_c (zOk_fl zn_push (zs_iconst (n := 1) (by decide +kernel) rfl)) <|
  zA_c (zOk_fl zn_bin (zs_iadd (by decide +kernel))) <|
  zA_n
def zcl_133_3 : List (Nat × zmI) := [(96, zm_putI 99 7 5), (99, zm_aload 100 0), (100, zm_getR 103 7 1), (103, zm_aload 104 0), (104, zm_getI 107 7 5), (107, zm_push 108 1), (108, zm_bin 109 (fun x y => w32 (x - y))), (109, zm_ald 110 100), (110, zm_iret), (111, zm_push 112 0), (112, zm_iret)]
theorem zmc_133_3 (l : Launch) : zAll l "ChessWire$Coder" prog_4_method_5_code 3 false (some .int) zcl_133_3 :=
  zA_c (zOk_sn zn_putI (zs_putI (k := 5) rfl (by decide) (by decide +kernel) rfl rfl (by decide +kernel) zw_142)) <|
  zA_c (zOk_fl zn_aload (zs_aload_n (q := 0) rfl (by decide +kernel))) <|
  zA_c (zOk_fl zn_getR (zs_getR (k := 1) rfl (by decide) (by decide +kernel) rfl (by decide +kernel) zw_138)) <|
  zA_c (zOk_fl zn_aload (zs_aload_n (q := 0) rfl (by decide +kernel))) <|
  zA_c (zOk_fl zn_getI (zs_getI (k := 5) rfl (by decide) (by decide +kernel) rfl (by decide +kernel) zw_142)) <|
  zA_c (zOk_fl zn_push (zs_iconst (n := 1) (by decide +kernel) rfl)) <|
  zA_c (zOk_fl zn_bin (zs_isub (by decide +kernel))) <|
  zA_c (zOk_fl zn_ald (zs_iald (by decide +kernel))) <|
  zA_c (zs_iret (by decide +kernel) rfl) <|
  zA_c (zOk_fl zn_push (zs_iconst (n := 0) (by decide +kernel) rfl)) <|
  zA_c (zs_iret (by decide +kernel) rfl) <|
  zA_n
def zc_133 : Nat → zmI := zgetC [zcl_133_0, zcl_133_1, zcl_133_2, zcl_133_3]
theorem zmf_133 (l : Launch) : zMf l zc_133 133 := ⟨by decide +kernel, false, (fun h => by cases h), fun pc => zgetC_ok (zA2_c (zmc_133_0 l) (zA2_c (zmc_133_1 l) (zA2_c (zmc_133_2 l) (zA2_c (zmc_133_3 l) (zA2_n))))) pc⟩
def zcl_134_0 : List (Nat × zmI) := [(0, zm_iload 1 1), (1, zm_call 4 101 1 true 99), (4, zm_ifne 7 11), (7, zm_iload 8 2), (8, zm_ifge 11 14), (11, zm_push 13 (-2)), (13, zm_iret), (14, zm_aload 15 0), (15, zm_iload 16 1), (16, zm_call 19 102 2 true 0), (19, zm_push 20 (-1)), (20, zm_icne 23 26), (23, zm_push 25 (-3)), (25, zm_iret), (26, zm_aload 27 0), (27, zm_getR 30 0 9), (30, zm_aload 31 0), (31, zm_getR 34 0 1)]
theorem zmc_134_0 (l : Launch) : zAll l "ChessWire" prog_1_method_19_code 3 false (some .int) zcl_134_0 :=
  zA_c (zOk_fl zn_iload (zs_iload_n (q := 1) rfl (by decide +kernel))) <|
  zA_c (zk_S zq_101 zw_714 (by decide +kernel)) <|
  zA_c (zOk_fl zn_ifne (zs_ifne (off := 7) (by decide +kernel) (by decide))) <|
  zA_c (zOk_fl zn_iload (zs_iload_n (q := 2) rfl (by decide +kernel))) <|
  zA_c (zOk_fl zn_ifge (zs_ifge (off := 6) (by decide +kernel) (by decide))) <|
  zA_c (zOk_fl zn_push (zs_bipush (n := (-2)) (by decide +kernel) rfl)) <|
  zA_c (zs_iret (by decide +kernel) rfl) <|
  zA_c (zOk_fl zn_aload (zs_aload_n (q := 0) rfl (by decide +kernel))) <|
  zA_c (zOk_fl zn_iload (zs_iload_n (q := 1) rfl (by decide +kernel))) <|
  zA_c (zk_V zq_102 zw_717 rfl (by decide +kernel)) <|
  zA_c (zOk_fl zn_push (zs_iconst (n := (-1)) (by decide +kernel) rfl)) <|
  zA_c (zOk_fl zn_icne (zs_icne (off := 6) (by decide +kernel) (by decide))) <|
  zA_c (zOk_fl zn_push (zs_bipush (n := (-3)) (by decide +kernel) rfl)) <|
  zA_c (zs_iret (by decide +kernel) rfl) <|
  zA_c (zOk_fl zn_aload (zs_aload_n (q := 0) rfl (by decide +kernel))) <|
  zA_c (zOk_fl zn_getR (zs_getR (k := 9) rfl (by decide) (by decide +kernel) rfl (by decide +kernel) zw_312)) <|
  zA_c (zOk_fl zn_aload (zs_aload_n (q := 0) rfl (by decide +kernel))) <|
  zA_c (zOk_fl zn_getR (zs_getR (k := 1) rfl (by decide) (by decide +kernel) rfl (by decide +kernel) zw_304)) <|
  zA_n
def zcl_134_1 : List (Nat × zmI) := [(34, zm_iload 35 1), (35, zm_aload 36 0), (36, zm_getR 39 0 7), (39, zm_call 42 135 4 false 8), (42, zm_iload 43 2), (43, zm_aload 44 0), (44, zm_getR 47 0 9), (47, zm_call 50 138 1 true 8), (50, zm_icge 53 64), (53, zm_aload 54 0), (54, zm_getR 57 0 9), (57, zm_iload 58 2), (58, zm_call 61 139 2 true 8), (61, zm_goto 66)]
theorem zmc_134_1 (l : Launch) : zAll l "ChessWire" prog_1_method_19_code 3 false (some .int) zcl_134_1 :=
  zA_c (zOk_fl zn_iload (zs_iload_n (q := 1) rfl (by decide +kernel))) <|
  zA_c (zOk_fl zn_aload (zs_aload_n (q := 0) rfl (by decide +kernel))) <|
  zA_c (zOk_fl zn_getR (zs_getR (k := 7) rfl (by decide) (by decide +kernel) rfl (by decide +kernel) zw_310)) <|
  zA_c (zk_V zq_135 zw_858 rfl (by decide +kernel)) <|
  zA_c (zOk_fl zn_iload (zs_iload_n (q := 2) rfl (by decide +kernel))) <|
  zA_c (zOk_fl zn_aload (zs_aload_n (q := 0) rfl (by decide +kernel))) <|
  zA_c (zOk_fl zn_getR (zs_getR (k := 9) rfl (by decide) (by decide +kernel) rfl (by decide +kernel) zw_312)) <|
  zA_c (zk_V zq_138 zw_878 rfl (by decide +kernel)) <|
  zA_c (zOk_fl zn_icge (zs_icge (off := 14) (by decide +kernel) (by decide))) <|
  zA_c (zOk_fl zn_aload (zs_aload_n (q := 0) rfl (by decide +kernel))) <|
  zA_c (zOk_fl zn_getR (zs_getR (k := 9) rfl (by decide) (by decide +kernel) rfl (by decide +kernel) zw_312)) <|
  zA_c (zOk_fl zn_iload (zs_iload_n (q := 2) rfl (by decide +kernel))) <|
  zA_c (zk_V zq_139 zw_883 rfl (by decide +kernel)) <|
  zA_c (zOk_fl zn_goto (zs_goto (off := 5) (by decide +kernel) (by decide))) <|
  zA_n
def zcl_134_2 : List (Nat × zmI) := [(64, zm_push 66 (-2)), (66, zm_iret)]
theorem zmc_134_2 (l : Launch) : zAll l "ChessWire" prog_1_method_19_code 3 false (some .int) zcl_134_2 :=
  zA_c (zOk_fl zn_push (zs_bipush (n := (-2)) (by decide +kernel) rfl)) <|
  zA_c (zs_iret (by decide +kernel) rfl) <|
  zA_n
def zc_134 : Nat → zmI := zgetC [zcl_134_0, zcl_134_1, zcl_134_2]
theorem zmf_134 (l : Launch) : zMf l zc_134 134 := ⟨by decide +kernel, false, (fun h => by cases h), fun pc => zgetC_ok (zA2_c (zmc_134_0 l) (zA2_c (zmc_134_1 l) (zA2_c (zmc_134_2 l) (zA2_n)))) pc⟩
def zcl_135_0 : List (Nat × zmI) := [(0, zm_aload 1 3), (1, zm_push 2 0), (2, zm_aload 3 0), (3, zm_getR 6 8 1), (6, zm_push 7 0), (7, zm_push 9 6), (9, zm_copy 12), (12, zm_aload 13 0), (13, zm_getR 16 8 3), (16, zm_aload 17 1), (17, zm_call 20 136 2 false 2), (20, zm_aload 21 0), (21, zm_getR 24 8 3), (24, zm_iload 25 2), (25, zm_call 28 108 2 false 2), (28, zm_aload 29 0), (29, zm_getR 32 8 3)]
theorem zmc_135_0 (l : Launch) : zAll l "ChessWire$Foresight" prog_6_method_2_code 4 false (none) zcl_135_0 :=
  zA_c (zOk_fl zn_aload (zs_aload_n (q := 3) rfl (by decide +kernel))) <|
  zA_c (zOk_fl zn_push (zs_iconst (n := 0) (by decide +kernel) rfl)) <|
  zA_c (zOk_fl zn_aload (zs_aload_n (q := 0) rfl (by decide +kernel))) <|
  zA_c (zOk_fl zn_getR (zs_getR (k := 1) rfl (by decide) (by decide +kernel) rfl (by decide +kernel) zw_171)) <|
  zA_c (zOk_fl zn_push (zs_iconst (n := 0) (by decide +kernel) rfl)) <|
  zA_c (zOk_fl zn_push (zs_bipush (n := 6) (by decide +kernel) rfl)) <|
  zA_c (zOk_sn zn_copy (zs_copy (by decide +kernel) zw_862 zw_864 zw_863 zw_23)) <|
  zA_c (zOk_fl zn_aload (zs_aload_n (q := 0) rfl (by decide +kernel))) <|
  zA_c (zOk_fl zn_getR (zs_getR (k := 3) rfl (by decide) (by decide +kernel) rfl (by decide +kernel) zw_173)) <|
  zA_c (zOk_fl zn_aload (zs_aload_n (q := 1) rfl (by decide +kernel))) <|
  zA_c (zk_V zq_136 zw_865 rfl (by decide +kernel)) <|
  zA_c (zOk_fl zn_aload (zs_aload_n (q := 0) rfl (by decide +kernel))) <|
  zA_c (zOk_fl zn_getR (zs_getR (k := 3) rfl (by decide) (by decide +kernel) rfl (by decide +kernel) zw_173)) <|
  zA_c (zOk_fl zn_iload (zs_iload_n (q := 2) rfl (by decide +kernel))) <|
  zA_c (zk_V zq_108 zw_870 rfl (by decide +kernel)) <|
  zA_c (zOk_fl zn_aload (zs_aload_n (q := 0) rfl (by decide +kernel))) <|
  zA_c (zOk_fl zn_getR (zs_getR (k := 3) rfl (by decide) (by decide +kernel) rfl (by decide +kernel) zw_173)) <|
  zA_n
def zcl_135_1 : List (Nat × zmI) := [(32, zm_aload 33 0), (33, zm_getR 36 8 5), (36, zm_aload 37 0), (37, zm_getR 40 8 2), (40, zm_call 43 75 3 false 2), (43, zm_aload 44 0), (44, zm_getR 47 8 0), (47, zm_aload 48 0), (48, zm_getR 51 8 5), (51, zm_push 52 0), (52, zm_call 55 89 3 false 6), (55, zm_aload 56 0), (56, zm_aload 57 0), (57, zm_getR 60 8 5), (60, zm_aload 61 0), (61, zm_getR 64 8 1)]
theorem zmc_135_1 (l : Launch) : zAll l "ChessWire$Foresight" prog_6_method_2_code 4 false (none) zcl_135_1 :=
  zA_c (zOk_fl zn_aload (zs_aload_n (q := 0) rfl (by decide +kernel))) <|
  zA_c (zOk_fl zn_getR (zs_getR (k := 5) rfl (by decide) (by decide +kernel) rfl (by decide +kernel) zw_175)) <|
  zA_c (zOk_fl zn_aload (zs_aload_n (q := 0) rfl (by decide +kernel))) <|
  zA_c (zOk_fl zn_getR (zs_getR (k := 2) rfl (by decide) (by decide +kernel) rfl (by decide +kernel) zw_172)) <|
  zA_c (zk_V zq_75 zw_871 rfl (by decide +kernel)) <|
  zA_c (zOk_fl zn_aload (zs_aload_n (q := 0) rfl (by decide +kernel))) <|
  zA_c (zOk_fl zn_getR (zs_getR (k := 0) rfl (by decide) (by decide +kernel) rfl (by decide +kernel) zw_170)) <|
  zA_c (zOk_fl zn_aload (zs_aload_n (q := 0) rfl (by decide +kernel))) <|
  zA_c (zOk_fl zn_getR (zs_getR (k := 5) rfl (by decide) (by decide +kernel) rfl (by decide +kernel) zw_175)) <|
  zA_c (zOk_fl zn_push (zs_iconst (n := 0) (by decide +kernel) rfl)) <|
  zA_c (zk_V zq_89 zw_872 rfl (by decide +kernel)) <|
  zA_c (zOk_fl zn_aload (zs_aload_n (q := 0) rfl (by decide +kernel))) <|
  zA_c (zOk_fl zn_aload (zs_aload_n (q := 0) rfl (by decide +kernel))) <|
  zA_c (zOk_fl zn_getR (zs_getR (k := 5) rfl (by decide) (by decide +kernel) rfl (by decide +kernel) zw_175)) <|
  zA_c (zOk_fl zn_aload (zs_aload_n (q := 0) rfl (by decide +kernel))) <|
  zA_c (zOk_fl zn_getR (zs_getR (k := 1) rfl (by decide) (by decide +kernel) rfl (by decide +kernel) zw_171)) <|
  zA_n
def zcl_135_2 : List (Nat × zmI) := [(64, zm_call 67 137 2 true 5), (67, zm_putI 70 8 10), (70, zm_vret)]
theorem zmc_135_2 (l : Launch) : zAll l "ChessWire$Foresight" prog_6_method_2_code 4 false (none) zcl_135_2 :=
  zA_c (zk_V zq_137 zw_873 rfl (by decide +kernel)) <|
  zA_c (zOk_sn zn_putI (zs_putI (k := 10) rfl (by decide) (by decide +kernel) rfl rfl (by decide +kernel) zw_180)) <|
  zA_c (zs_vret (by decide +kernel) rfl) <|
  zA_n
def zc_135 : Nat → zmI := zgetC [zcl_135_0, zcl_135_1, zcl_135_2]
theorem zmf_135 (l : Launch) : zMf l zc_135 135 := ⟨by decide +kernel, false, (fun h => by cases h), fun pc => zgetC_ok (zA2_c (zmc_135_0 l) (zA2_c (zmc_135_1 l) (zA2_c (zmc_135_2 l) (zA2_n)))) pc⟩
def zcl_136_0 : List (Nat × zmI) := [(0, zm_aload 1 1), (1, zm_getR 4 2 0), (4, zm_push 5 0), (5, zm_aload 6 0), (6, zm_getR 9 2 0), (9, zm_push 10 0), (10, zm_push 12 64), (12, zm_copy 15), (15, zm_aload 16 0), (16, zm_aload 17 1), (17, zm_getI 20 2 1), (20, zm_putI 23 2 1), (23, zm_aload 24 0), (24, zm_aload 25 1), (25, zm_getI 28 2 2), (28, zm_putI 31 2 2), (31, zm_aload 32 0)]
theorem zmc_136_0 (l : Launch) : zAll l "ChessWire$Board" prog_2_method_9_code 2 false (none) zcl_136_0 :=
  zA_c (zOk_fl zn_aload (zs_aload_n (q := 1) rfl (by decide +kernel))) <|
  zA_c (zOk_fl zn_getR (zs_getR (k := 0) rfl (by decide) (by decide +kernel) rfl (by decide +kernel) zw_56)) <|
  zA_c (zOk_fl zn_push (zs_iconst (n := 0) (by decide +kernel) rfl)) <|
  zA_c (zOk_fl zn_aload (zs_aload_n (q := 0) rfl (by decide +kernel))) <|
  zA_c (zOk_fl zn_getR (zs_getR (k := 0) rfl (by decide) (by decide +kernel) rfl (by decide +kernel) zw_56)) <|
  zA_c (zOk_fl zn_push (zs_iconst (n := 0) (by decide +kernel) rfl)) <|
  zA_c (zOk_fl zn_push (zs_bipush (n := 64) (by decide +kernel) rfl)) <|
  zA_c (zOk_sn zn_copy (zs_copy (by decide +kernel) zw_869 zw_864 zw_863 zw_23)) <|
  zA_c (zOk_fl zn_aload (zs_aload_n (q := 0) rfl (by decide +kernel))) <|
  zA_c (zOk_fl zn_aload (zs_aload_n (q := 1) rfl (by decide +kernel))) <|
  zA_c (zOk_fl zn_getI (zs_getI (k := 1) rfl (by decide) (by decide +kernel) rfl (by decide +kernel) zw_57)) <|
  zA_c (zOk_sn zn_putI (zs_putI (k := 1) rfl (by decide) (by decide +kernel) rfl rfl (by decide +kernel) zw_57)) <|
  zA_c (zOk_fl zn_aload (zs_aload_n (q := 0) rfl (by decide +kernel))) <|
  zA_c (zOk_fl zn_aload (zs_aload_n (q := 1) rfl (by decide +kernel))) <|
  zA_c (zOk_fl zn_getI (zs_getI (k := 2) rfl (by decide) (by decide +kernel) rfl (by decide +kernel) zw_58)) <|
  zA_c (zOk_sn zn_putI (zs_putI (k := 2) rfl (by decide) (by decide +kernel) rfl rfl (by decide +kernel) zw_58)) <|
  zA_c (zOk_fl zn_aload (zs_aload_n (q := 0) rfl (by decide +kernel))) <|
  zA_n
def zcl_136_1 : List (Nat × zmI) := [(32, zm_aload 33 1), (33, zm_getI 36 2 3), (36, zm_putI 39 2 3), (39, zm_vret)]
theorem zmc_136_1 (l : Launch) : zAll l "ChessWire$Board" prog_2_method_9_code 2 false (none) zcl_136_1 :=
  zA_c (zOk_fl zn_aload (zs_aload_n (q := 1) rfl (by decide +kernel))) <|
  zA_c (zOk_fl zn_getI (zs_getI (k := 3) rfl (by decide) (by decide +kernel) rfl (by decide +kernel) zw_59)) <|
  zA_c (zOk_sn zn_putI (zs_putI (k := 3) rfl (by decide) (by decide +kernel) rfl rfl (by decide +kernel) zw_59)) <|
  zA_c (zs_vret (by decide +kernel) rfl) <|
  zA_n
def zc_136 : Nat → zmI := zgetC [zcl_136_0, zcl_136_1]
theorem zmf_136 (l : Launch) : zMf l zc_136 136 := ⟨by decide +kernel, false, (fun h => by cases h), fun pc => zgetC_ok (zA2_c (zmc_136_0 l) (zA2_c (zmc_136_1 l) (zA2_n))) pc⟩
def zcl_137_0 : List (Nat × zmI) := [(0, zm_push 1 0), (1, zm_istore 2 2), (2, zm_push 3 0), (3, zm_istore 4 3), (4, zm_iload 5 3), (5, zm_aload 6 0), (6, zm_getI 9 5 3), (9, zm_icge 12 27), (12, zm_iload 13 2), (13, zm_aload 14 0), (14, zm_iload 15 3), (15, zm_aload 16 1), (16, zm_call 19 132 3 true 5), (19, zm_bin 20 (fun x y => w32 (x + y))), (20, zm_istore 21 2), (21, zm_iinc 24 3 1), (24, zm_goto 4), (27, zm_iload 28 2), (28, zm_iret)]
theorem zmc_137_0 (l : Launch) : zAll l "ChessWire$MoveList" prog_8_method_14_code 4 false (some .int) zcl_137_0 :=
  zA_c (zOk_fl zn_push (zs_iconst (n := 0) (by decide +kernel) rfl)) <|
  zA_c (zOk_fl zn_istore (zs_istore_n (q := 2) rfl (by decide +kernel))) <|
  zA_c (zOk_fl zn_push (zs_iconst (n := 0) (by decide +kernel) rfl)) <|
  zA_c (zOk_fl zn_istore (zs_istore_n (q := 3) rfl (by decide +kernel))) <|
  zA_c (zOk_fl zn_iload (zs_iload_n (q := 3) rfl (by decide +kernel))) <|
  zA_c (zOk_fl zn_aload (zs_aload_n (q := 0) rfl (by decide +kernel))) <|
  zA_c (zOk_fl zn_getI (zs_getI (k := 3) rfl (by decide) (by decide +kernel) rfl (by decide +kernel) zw_111)) <|
  zA_c (zOk_fl zn_icge (zs_icge (off := 18) (by decide +kernel) (by decide))) <|
  zA_c (zOk_fl zn_iload (zs_iload_n (q := 2) rfl (by decide +kernel))) <|
  zA_c (zOk_fl zn_aload (zs_aload_n (q := 0) rfl (by decide +kernel))) <|
  zA_c (zOk_fl zn_iload (zs_iload_n (q := 3) rfl (by decide +kernel))) <|
  zA_c (zOk_fl zn_aload (zs_aload_n (q := 1) rfl (by decide +kernel))) <|
  zA_c (zk_V zq_132 zw_877 rfl (by decide +kernel)) <|
  zA_c (zOk_fl zn_bin (zs_iadd (by decide +kernel))) <|
  zA_c (zOk_fl zn_istore (zs_istore_n (q := 2) rfl (by decide +kernel))) <|
  zA_c (zOk_fl zn_iinc (zs_iinc rfl (by decide +kernel))) <|
  zA_c (zOk_fl zn_goto (zs_goto (off := (-20)) (by decide +kernel) (by decide))) <|
  zA_c (zOk_fl zn_iload (zs_iload_n (q := 2) rfl (by decide +kernel))) <|
  zA_c (zs_iret (by decide +kernel) rfl) <|
  zA_n
def zc_137 : Nat → zmI := zgetC [zcl_137_0]
theorem zmf_137 (l : Launch) : zMf l zc_137 137 := ⟨by decide +kernel, false, (fun h => by cases h), fun pc => zgetC_ok (zA2_c (zmc_137_0 l) (zA2_n)) pc⟩
