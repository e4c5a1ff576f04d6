/-! code, and why it is sound -/
def zcl_289_0 : List (Nat × zmI) := [(0, zm_aload 1 0), (1, zm_push 2 2), (2, zm_aload 3 0), (3, zm_getR 6 12 28), (6, zm_iload 7 1), (7, zm_ald 8 100), (8, zm_aload 9 0), (9, zm_getR 12 12 28), (12, zm_iload 13 1), (13, zm_push 14 1), (14, zm_bin 15 (fun x y => w32 (x + y))), (15, zm_ald 16 100), (16, zm_push 17 1), (17, zm_bin 18 (fun x y => w32 (x - y))), (18, zm_call 21 219 4 true 12), (21, zm_pop 22), (22, zm_aload 23 0), (23, zm_getR 26 12 28), (26, zm_iload 27 1), (27, zm_push 28 1), (28, zm_bin 29 (fun x y => w32 (x + y))), (29, zm_ald 30 100), (30, zm_push 31 1), (31, zm_bin 32 (fun x y => w32 (x - y)))]
theorem zmc_289_0 (l : Launch) : zAll l "ChessWireModel" prog_14_method_95_code 2 false (some .int) zcl_289_0 :=
  zA_c (zOk_fl zn_aload (zs_aload_n (q := 0) rfl (by decide +kernel))) <|
  zA_c (zOk_fl zn_push (zs_iconst (n := 2) (by decide +kernel) rfl)) <|
  zA_c (zOk_fl zn_aload (zs_aload_n (q := 0) rfl (by decide +kernel))) <|
  zA_c (zOk_fl zn_getR (zs_getR (k := 28) rfl (by decide) (by decide +kernel) rfl (by decide +kernel) zw_1207)) <|
  zA_c (zOk_fl zn_iload (zs_iload_n (q := 1) rfl (by decide +kernel))) <|
  zA_c (zOk_fl zn_ald (zs_iald (by decide +kernel))) <|
  zA_c (zOk_fl zn_aload (zs_aload_n (q := 0) rfl (by decide +kernel))) <|
  zA_c (zOk_fl zn_getR (zs_getR (k := 28) rfl (by decide) (by decide +kernel) rfl (by decide +kernel) zw_1207)) <|
  zA_c (zOk_fl zn_iload (zs_iload_n (q := 1) rfl (by decide +kernel))) <|
  zA_c (zOk_fl zn_push (zs_iconst (n := 1) (by decide +kernel) rfl)) <|
  zA_c (zOk_fl zn_bin (zs_iadd (by decide +kernel))) <|
  zA_c (zOk_fl zn_ald (zs_iald (by decide +kernel))) <|
  zA_c (zOk_fl zn_push (zs_iconst (n := 1) (by decide +kernel) rfl)) <|
  zA_c (zOk_fl zn_bin (zs_isub (by decide +kernel))) <|
  zA_c (zk_V zq_219 zw_1360 rfl (by decide +kernel)) <|
  zA_c (zOk_fl zn_pop (zs_pop (by decide +kernel))) <|
  zA_c (zOk_fl zn_aload (zs_aload_n (q := 0) rfl (by decide +kernel))) <|
  zA_c (zOk_fl zn_getR (zs_getR (k := 28) rfl (by decide) (by decide +kernel) rfl (by decide +kernel) zw_1207)) <|
  zA_c (zOk_fl zn_iload (zs_iload_n (q := 1) rfl (by decide +kernel))) <|
  zA_c (zOk_fl zn_push (zs_iconst (n := 1) (by decide +kernel) rfl)) <|
  zA_c (zOk_fl zn_bin (zs_iadd (by decide +kernel))) <|
  zA_c (zOk_fl zn_ald (zs_iald (by decide +kernel))) <|
  zA_c (zOk_fl zn_push (zs_iconst (n := 1) (by decide +kernel) rfl)) <|
  zA_c (zOk_fl zn_bin (zs_isub (by decide +kernel))) <|
  zA_n
def zcl_289_1 : List (Nat × zmI) := [(32, zm_aload 33 0), (33, zm_getR 36 12 28), (36, zm_iload 37 1), (37, zm_ald 38 100), (38, zm_bin 39 (fun x y => w32 (x - y))), (39, zm_iret)]
theorem zmc_289_1 (l : Launch) : zAll l "ChessWireModel" prog_14_method_95_code 2 false (some .int) zcl_289_1 :=
  zA_c (zOk_fl zn_aload (zs_aload_n (q := 0) rfl (by decide +kernel))) <|
  zA_c (zOk_fl zn_getR (zs_getR (k := 28) rfl (by decide) (by decide +kernel) rfl (by decide +kernel) zw_1207)) <|
  zA_c (zOk_fl zn_iload (zs_iload_n (q := 1) rfl (by decide +kernel))) <|
  zA_c (zOk_fl zn_ald (zs_iald (by decide +kernel))) <|
  zA_c (zOk_fl zn_bin (zs_isub (by decide +kernel))) <|
  zA_c (zs_iret (by decide +kernel) rfl) <|
  zA_n
def zc_289 : Nat → zmI := zgetC [zcl_289_0, zcl_289_1]
theorem zmf_289 (l : Launch) : zMf l zc_289 289 := ⟨by decide +kernel, false, (fun h => by cases h), fun pc => zgetC_ok (zA2_c (zmc_289_0 l) (zA2_c (zmc_289_1 l) (zA2_n))) pc⟩
def zcl_290_0 : List (Nat × zmI) := [(0, zm_iload 1 1), (1, zm_ifge 4 7), (4, zm_push 6 (-2)), (6, zm_iret), (7, zm_aload 8 0), (8, zm_push 9 0), (9, zm_call 12 288 2 false 12), (12, zm_iload 13 1), (13, zm_aload 14 0), (14, zm_getI 17 12 31), (17, zm_icge 20 29), (20, zm_aload 21 0), (21, zm_getR 24 12 29), (24, zm_iload 25 1), (25, zm_ald 26 100), (26, zm_goto 30), (29, zm_push 30 (-1)), (30, zm_iret)]
theorem zmc_290_0 (l : Launch) : zAll l "ChessWireModel" prog_14_method_99_code 2 false (some .int) zcl_290_0 :=
  zA_c (zOk_fl zn_iload (zs_iload_n (q := 1) rfl (by decide +kernel))) <|
  zA_c (zOk_fl zn_ifge (zs_ifge (off := 6) (by decide +kernel) (by decide))) <|
  zA_c (zOk_fl zn_push (zs_bipush (n := (-2)) (by decide +kernel) rfl)) <|
  zA_c (zs_iret (by decide +kernel) rfl) <|
  zA_c (zOk_fl zn_aload (zs_aload_n (q := 0) rfl (by decide +kernel))) <|
  zA_c (zOk_fl zn_push (zs_iconst (n := 0) (by decide +kernel) rfl)) <|
  zA_c (zk_V zq_288 zw_1634 rfl (by decide +kernel)) <|
  zA_c (zOk_fl zn_iload (zs_iload_n (q := 1) rfl (by decide +kernel))) <|
  zA_c (zOk_fl zn_aload (zs_aload_n (q := 0) rfl (by decide +kernel))) <|
  zA_c (zOk_fl zn_getI (zs_getI (k := 31) rfl (by decide) (by decide +kernel) rfl (by decide +kernel) zw_1210)) <|
  zA_c (zOk_fl zn_icge (zs_icge (off := 12) (by decide +kernel) (by decide))) <|
  zA_c (zOk_fl zn_aload (zs_aload_n (q := 0) rfl (by decide +kernel))) <|
  zA_c (zOk_fl zn_getR (zs_getR (k := 29) rfl (by decide) (by decide +kernel) rfl (by decide +kernel) zw_1208)) <|
  zA_c (zOk_fl zn_iload (zs_iload_n (q := 1) rfl (by decide +kernel))) <|
  zA_c (zOk_fl zn_ald (zs_iald (by decide +kernel))) <|
  zA_c (zOk_fl zn_goto (zs_goto (off := 4) (by decide +kernel) (by decide))) <|
  zA_c (zOk_fl zn_push (zs_iconst (n := (-1)) (by decide +kernel) rfl)) <|
  zA_c (zs_iret (by decide +kernel) rfl) <|
  zA_n
def zc_290 : Nat → zmI := zgetC [zcl_290_0]
theorem zmf_290 (l : Launch) : zMf l zc_290 290 := ⟨by decide +kernel, false, (fun h => by cases h), fun pc => zgetC_ok (zA2_c (zmc_290_0 l) (zA2_n)) pc⟩
def zcl_291_0 : List (Nat × zmI) := [(0, zm_iload 1 1), (1, zm_i2l 2), (2, zm_pushl 3 0), (3, zm_pushl 6 99), (6, zm_call 9 201 3 true 99), (9, zm_ifeq 12 20), (12, zm_aload 13 0), (13, zm_iload 14 1), (14, zm_call 17 292 2 true 12), (17, zm_goto 22), (20, zm_push 22 (-2)), (22, zm_iret)]
theorem zmc_291_0 (l : Launch) : zAll l "ChessWireModel" prog_14_method_101_code 2 false (some .int) zcl_291_0 :=
  zA_c (zOk_fl zn_iload (zs_iload_n (q := 1) rfl (by decide +kernel))) <|
  zA_c (zOk_fl zn_i2l (zs_i2l (by decide +kernel))) <|
  zA_c (zOk_fl zn_pushl (zs_lconst (n := 0) (by decide +kernel) rfl)) <|
  zA_c (zOk_fl zn_pushl (zs_ldc2 (by decide +kernel) zw_1599 rfl)) <|
  zA_c (zk_S zq_201 zw_1172 (by decide +kernel)) <|
  zA_c (zOk_fl zn_ifeq (zs_ifeq (off := 11) (by decide +kernel) (by decide))) <|
  zA_c (zOk_fl zn_aload (zs_aload_n (q := 0) rfl (by decide +kernel))) <|
  zA_c (zOk_fl zn_iload (zs_iload_n (q := 1) rfl (by decide +kernel))) <|
  zA_c (zk_V zq_292 zw_1650 rfl (by decide +kernel)) <|
  zA_c (zOk_fl zn_goto (zs_goto (off := 5) (by decide +kernel) (by decide))) <|
  zA_c (zOk_fl zn_push (zs_bipush (n := (-2)) (by decide +kernel) rfl)) <|
  zA_c (zs_iret (by decide +kernel) rfl) <|
  zA_n
def zc_291 : Nat → zmI := zgetC [zcl_291_0]
theorem zmf_291 (l : Launch) : zMf l zc_291 291 := ⟨by decide +kernel, false, (fun h => by cases h), fun pc => zgetC_ok (zA2_c (zmc_291_0 l) (zA2_n)) pc⟩
def zcl_292_0 : List (Nat × zmI) := [(0, zm_aload 1 0), (1, zm_iload 2 1), (2, zm_call 5 288 2 false 12), (5, zm_aload 6 0), (6, zm_getI 9 12 33), (9, zm_iret)]
theorem zmc_292_0 (l : Launch) : zAll l "ChessWireModel" prog_14_method_100_code 2 false (some .int) zcl_292_0 :=
  zA_c (zOk_fl zn_aload (zs_aload_n (q := 0) rfl (by decide +kernel))) <|
  zA_c (zOk_fl zn_iload (zs_iload_n (q := 1) rfl (by decide +kernel))) <|
  zA_c (zk_V zq_288 zw_1634 rfl (by decide +kernel)) <|
  zA_c (zOk_fl zn_aload (zs_aload_n (q := 0) rfl (by decide +kernel))) <|
  zA_c (zOk_fl zn_getI (zs_getI (k := 33) rfl (by decide) (by decide +kernel) rfl (by decide +kernel) zw_1212)) <|
  zA_c (zs_iret (by decide +kernel) rfl) <|
  zA_n
def zc_292 : Nat → zmI := zgetC [zcl_292_0]
theorem zmf_292 (l : Launch) : zMf l zc_292 292 := ⟨by decide +kernel, false, (fun h => by cases h), fun pc => zgetC_ok (zA2_c (zmc_292_0 l) (zA2_n)) pc⟩
def zcl_293_0 : List (Nat × zmI) := [(0, zm_aload 1 0), (1, zm_call 4 294 1 false 12), (4, zm_aload 5 0), (5, zm_getI 8 12 37), (8, zm_ifeq 11 16), (11, zm_push 13 (-4)), (13, zm_goto 20), (16, zm_aload 17 0), (17, zm_getI 20 12 34), (20, zm_iret)]
theorem zmc_293_0 (l : Launch) : zAll l "ChessWireModel" prog_14_method_108_code 1 false (some .int) zcl_293_0 :=
  zA_c (zOk_fl zn_aload (zs_aload_n (q := 0) rfl (by decide +kernel))) <|
  zA_c (zk_V zq_294 zw_1658 rfl (by decide +kernel)) <|
  zA_c (zOk_fl zn_aload (zs_aload_n (q := 0) rfl (by decide +kernel))) <|
  zA_c (zOk_fl zn_getI (zs_getI (k := 37) rfl (by decide) (by decide +kernel) rfl (by decide +kernel) zw_1216)) <|
  zA_c (zOk_fl zn_ifeq (zs_ifeq (off := 8) (by decide +kernel) (by decide))) <|
  zA_c (zOk_fl zn_push (zs_bipush (n := (-4)) (by decide +kernel) rfl)) <|
  zA_c (zOk_fl zn_goto (zs_goto (off := 7) (by decide +kernel) (by decide))) <|
  zA_c (zOk_fl zn_aload (zs_aload_n (q := 0) rfl (by decide +kernel))) <|
  zA_c (zOk_fl zn_getI (zs_getI (k := 34) rfl (by decide) (by decide +kernel) rfl (by decide +kernel) zw_1213)) <|
  zA_c (zs_iret (by decide +kernel) rfl) <|
  zA_n
def zc_293 : Nat → zmI := zgetC [zcl_293_0]
theorem zmf_293 (l : Launch) : zMf l zc_293 293 := ⟨by decide +kernel, false, (fun h => by cases h), fun pc => zgetC_ok (zA2_c (zmc_293_0 l) (zA2_n)) pc⟩
def zcl_294_0 : List (Nat × zmI) := [(0, zm_aload 1 0), (1, zm_call 4 223 1 true 12), (4, zm_pop 5), (5, zm_aload 6 0), (6, zm_push 7 0), (7, zm_putI 10 12 34), (10, zm_aload 11 0), (11, zm_aload 12 0), (12, zm_getI 15 12 27), (15, zm_push 16 3), (16, zm_icle 19 23), (19, zm_push 20 1), (20, zm_goto 24), (23, zm_push 24 0), (24, zm_putZ 27 12 37), (27, zm_push 28 0), (28, zm_istore 29 1), (29, zm_iload 30 1), (30, zm_push 31 3), (31, zm_icge 34 47)]
theorem zmc_294_0 (l : Launch) : zAll l "ChessWireModel" prog_14_method_107_code 2 false (none) zcl_294_0 :=
  zA_c (zOk_fl zn_aload (zs_aload_n (q := 0) rfl (by decide +kernel))) <|
  zA_c (zk_V zq_223 zw_1377 rfl (by decide +kernel)) <|
  zA_c (zOk_fl zn_pop (zs_pop (by decide +kernel))) <|
  zA_c (zOk_fl zn_aload (zs_aload_n (q := 0) rfl (by decide +kernel))) <|
  zA_c (zOk_fl zn_push (zs_iconst (n := 0) (by decide +kernel) rfl)) <|
  zA_c (zOk_sn zn_putI (zs_putI (k := 34) rfl (by decide) (by decide +kernel) rfl rfl (by decide +kernel) zw_1213)) <|
  zA_c (zOk_fl zn_aload (zs_aload_n (q := 0) rfl (by decide +kernel))) <|
  zA_c (zOk_fl zn_aload (zs_aload_n (q := 0) rfl (by decide +kernel))) <|
  zA_c (zOk_fl zn_getI (zs_getI (k := 27) rfl (by decide) (by decide +kernel) rfl (by decide +kernel) zw_1206)) <|
  zA_c (zOk_fl zn_push (zs_iconst (n := 3) (by decide +kernel) rfl)) <|
  zA_c (zOk_fl zn_icle (zs_icle (off := 7) (by decide +kernel) (by decide))) <|
  zA_c (zOk_fl zn_push (zs_iconst (n := 1) (by decide +kernel) rfl)) <|
  zA_c (zOk_fl zn_goto (zs_goto (off := 4) (by decide +kernel) (by decide))) <|
  zA_c (zOk_fl zn_push (zs_iconst (n := 0) (by decide +kernel) rfl)) <|
  zA_c (zOk_sn zn_putZ (zs_putZ (k := 37) rfl (by decide) (by decide +kernel) rfl rfl (by decide +kernel) zw_1216)) <|
  zA_c (zOk_fl zn_push (zs_iconst (n := 0) (by decide +kernel) rfl)) <|
  zA_c (zOk_fl zn_istore (zs_istore_n (q := 1) rfl (by decide +kernel))) <|
  zA_c (zOk_fl zn_iload (zs_iload_n (q := 1) rfl (by decide +kernel))) <|
  zA_c (zOk_fl zn_push (zs_iconst (n := 3) (by decide +kernel) rfl)) <|
  zA_c (zOk_fl zn_icge (zs_icge (off := 16) (by decide +kernel) (by decide))) <|
  zA_n
def zcl_294_1 : List (Nat × zmI) := [(34, zm_aload 35 0), (35, zm_getR 38 12 35), (38, zm_iload 39 1), (39, zm_push 40 (-1)), (40, zm_iast 41), (41, zm_iinc 44 1 1), (44, zm_goto 29), (47, zm_push 48 0), (48, zm_istore 49 1), (49, zm_iload 50 1), (50, zm_push 53 12288), (53, zm_icge 56 69), (56, zm_aload 57 0), (57, zm_getR 60 12 36), (60, zm_iload 61 1), (61, zm_push 62 0), (62, zm_zast 63), (63, zm_iinc 66 1 1)]
theorem zmc_294_1 (l : Launch) : zAll l "ChessWireModel" prog_14_method_107_code 2 false (none) zcl_294_1 :=
  zA_c (zOk_fl zn_aload (zs_aload_n (q := 0) rfl (by decide +kernel))) <|
  zA_c (zOk_fl zn_getR (zs_getR (k := 35) rfl (by decide) (by decide +kernel) rfl (by decide +kernel) zw_1214)) <|
  zA_c (zOk_fl zn_iload (zs_iload_n (q := 1) rfl (by decide +kernel))) <|
  zA_c (zOk_fl zn_push (zs_iconst (n := (-1)) (by decide +kernel) rfl)) <|
  zA_c (zOk_sn zn_iast (zs_iast (by decide +kernel))) <|
  zA_c (zOk_fl zn_iinc (zs_iinc rfl (by decide +kernel))) <|
  zA_c (zOk_fl zn_goto (zs_goto (off := (-15)) (by decide +kernel) (by decide))) <|
  zA_c (zOk_fl zn_push (zs_iconst (n := 0) (by decide +kernel) rfl)) <|
  zA_c (zOk_fl zn_istore (zs_istore_n (q := 1) rfl (by decide +kernel))) <|
  zA_c (zOk_fl zn_iload (zs_iload_n (q := 1) rfl (by decide +kernel))) <|
  zA_c (zOk_fl zn_push (zs_sipush (n := 12288) (by decide +kernel) rfl)) <|
  zA_c (zOk_fl zn_icge (zs_icge (off := 16) (by decide +kernel) (by decide))) <|
  zA_c (zOk_fl zn_aload (zs_aload_n (q := 0) rfl (by decide +kernel))) <|
  zA_c (zOk_fl zn_getR (zs_getR (k := 36) rfl (by decide) (by decide +kernel) rfl (by decide +kernel) zw_1215)) <|
  zA_c (zOk_fl zn_iload (zs_iload_n (q := 1) rfl (by decide +kernel))) <|
  zA_c (zOk_fl zn_push (zs_iconst (n := 0) (by decide +kernel) rfl)) <|
  zA_c (zOk_sn zn_zast (zs_zast (by decide +kernel))) <|
  zA_c (zOk_fl zn_iinc (zs_iinc rfl (by decide +kernel))) <|
  zA_n
def zcl_294_2 : List (Nat × zmI) := [(66, zm_goto 49), (69, zm_aload 70 0), (70, zm_getI 73 12 37), (73, zm_ifeq 76 77), (76, zm_vret), (77, zm_aload 78 0), (78, zm_getI 81 12 27), (81, zm_ifne 84 90), (84, zm_aload 85 0), (85, zm_push 86 1), (86, zm_putI 89 12 34), (89, zm_vret), (90, zm_aload 91 0), (91, zm_push 92 0), (92, zm_push 93 0), (93, zm_call 96 295 3 false 12)]
theorem zmc_294_2 (l : Launch) : zAll l "ChessWireModel" prog_14_method_107_code 2 false (none) zcl_294_2 :=
  zA_c (zOk_fl zn_goto (zs_goto (off := (-17)) (by decide +kernel) (by decide))) <|
  zA_c (zOk_fl zn_aload (zs_aload_n (q := 0) rfl (by decide +kernel))) <|
  zA_c (zOk_fl zn_getI (zs_getI (k := 37) rfl (by decide) (by decide +kernel) rfl (by decide +kernel) zw_1216)) <|
  zA_c (zOk_fl zn_ifeq (zs_ifeq (off := 4) (by decide +kernel) (by decide))) <|
  zA_c (zs_vret (by decide +kernel) rfl) <|
  zA_c (zOk_fl zn_aload (zs_aload_n (q := 0) rfl (by decide +kernel))) <|
  zA_c (zOk_fl zn_getI (zs_getI (k := 27) rfl (by decide) (by decide +kernel) rfl (by decide +kernel) zw_1206)) <|
  zA_c (zOk_fl zn_ifne (zs_ifne (off := 9) (by decide +kernel) (by decide))) <|
  zA_c (zOk_fl zn_aload (zs_aload_n (q := 0) rfl (by decide +kernel))) <|
  zA_c (zOk_fl zn_push (zs_iconst (n := 1) (by decide +kernel) rfl)) <|
  zA_c (zOk_sn zn_putI (zs_putI (k := 34) rfl (by decide) (by decide +kernel) rfl rfl (by decide +kernel) zw_1213)) <|
  zA_c (zs_vret (by decide +kernel) rfl) <|
  zA_c (zOk_fl zn_aload (zs_aload_n (q := 0) rfl (by decide +kernel))) <|
  zA_c (zOk_fl zn_push (zs_iconst (n := 0) (by decide +kernel) rfl)) <|
  zA_c (zOk_fl zn_push (zs_iconst (n := 0) (by decide +kernel) rfl)) <|
  zA_c (zk_V zq_295 zw_1662 rfl (by decide +kernel)) <|
  zA_n
def zcl_294_3 : List (Nat × zmI) := [(96, zm_push 97 0), (97, zm_istore 98 1), (98, zm_iload 99 1), (99, zm_aload 100 0), (100, zm_getR 103 12 12), (103, zm_push 104 0), (104, zm_ald 105 100), (105, zm_icge 108 131), (108, zm_aload 109 0), (109, zm_getI 112 12 37), (112, zm_ifne 115 131), (115, zm_aload 116 0), (116, zm_aload 117 0), (117, zm_getR 120 12 11), (120, zm_iload 121 1), (121, zm_ald 122 100), (122, zm_call 125 296 2 false 12), (125, zm_iinc 128 1 1)]
theorem zmc_294_3 (l : Launch) : zAll l "ChessWireModel" prog_14_method_107_code 2 false (none) zcl_294_3 :=
  zA_c (zOk_fl zn_push (zs_iconst (n := 0) (by decide +kernel) rfl)) <|
  zA_c (zOk_fl zn_istore (zs_istore_n (q := 1) rfl (by decide +kernel))) <|
  zA_c (zOk_fl zn_iload (zs_iload_n (q := 1) rfl (by decide +kernel))) <|
  zA_c (zOk_fl zn_aload (zs_aload_n (q := 0) rfl (by decide +kernel))) <|
  zA_c (zOk_fl zn_getR (zs_getR (k := 12) rfl (by decide) (by decide +kernel) rfl (by decide +kernel) zw_1191)) <|
  zA_c (zOk_fl zn_push (zs_iconst (n := 0) (by decide +kernel) rfl)) <|
  zA_c (zOk_fl zn_ald (zs_iald (by decide +kernel))) <|
  zA_c (zOk_fl zn_icge (zs_icge (off := 26) (by decide +kernel) (by decide))) <|
  zA_c (zOk_fl zn_aload (zs_aload_n (q := 0) rfl (by decide +kernel))) <|
  zA_c (zOk_fl zn_getI (zs_getI (k := 37) rfl (by decide) (by decide +kernel) rfl (by decide +kernel) zw_1216)) <|
  zA_c (zOk_fl zn_ifne (zs_ifne (off := 19) (by decide +kernel) (by decide))) <|
  zA_c (zOk_fl zn_aload (zs_aload_n (q := 0) rfl (by decide +kernel))) <|
  zA_c (zOk_fl zn_aload (zs_aload_n (q := 0) rfl (by decide +kernel))) <|
  zA_c (zOk_fl zn_getR (zs_getR (k := 11) rfl (by decide) (by decide +kernel) rfl (by decide +kernel) zw_1190)) <|
  zA_c (zOk_fl zn_iload (zs_iload_n (q := 1) rfl (by decide +kernel))) <|
  zA_c (zOk_fl zn_ald (zs_iald (by decide +kernel))) <|
  zA_c (zk_V zq_296 zw_1666 rfl (by decide +kernel)) <|
  zA_c (zOk_fl zn_iinc (zs_iinc rfl (by decide +kernel))) <|
  zA_n
def zcl_294_4 : List (Nat × zmI) := [(128, zm_goto 98), (131, zm_vret)]
theorem zmc_294_4 (l : Launch) : zAll l "ChessWireModel" prog_14_method_107_code 2 false (none) zcl_294_4 :=
  zA_c (zOk_fl zn_goto (zs_goto (off := (-30)) (by decide +kernel) (by decide))) <|
  zA_c (zs_vret (by decide +kernel) rfl) <|
  zA_n
def zc_294 : Nat → zmI := zgetC [zcl_294_0, zcl_294_1, zcl_294_2, zcl_294_3, zcl_294_4]
theorem zmf_294 (l : Launch) : zMf l zc_294 294 := ⟨by decide +kernel, false, (fun h => by cases h), fun pc => zgetC_ok (zA2_c (zmc_294_0 l) (zA2_c (zmc_294_1 l) (zA2_c (zmc_294_2 l) (zA2_c (zmc_294_3 l) (zA2_c (zmc_294_4 l) (zA2_n)))))) pc⟩
def zcl_295_0 : List (Nat × zmI) := [(0, zm_aload 1 0), (1, zm_iload 2 1), (2, zm_call 5 232 2 false 12), (5, zm_aload 6 0), (6, zm_iload 7 2), (7, zm_call 10 289 2 true 12), (10, zm_pop 11), (11, zm_push 12 0), (12, zm_istore 13 3), (13, zm_push 14 0), (14, zm_istore 16 4), (16, zm_iload 18 4), (18, zm_aload 19 0), (19, zm_getR 22 12 12), (22, zm_iload 23 1), (23, zm_ald 24 100), (24, zm_icge 27 82), (27, zm_aload 28 0), (28, zm_iload 29 1), (29, zm_aload 30 0), (30, zm_getR 33 12 11)]
theorem zmc_295_0 (l : Launch) : zAll l "ChessWireModel" prog_14_method_102_code 5 false (none) zcl_295_0 :=
  zA_c (zOk_fl zn_aload (zs_aload_n (q := 0) rfl (by decide +kernel))) <|
  zA_c (zOk_fl zn_iload (zs_iload_n (q := 1) rfl (by decide +kernel))) <|
  zA_c (zk_V zq_232 zw_1411 rfl (by decide +kernel)) <|
  zA_c (zOk_fl zn_aload (zs_aload_n (q := 0) rfl (by decide +kernel))) <|
  zA_c (zOk_fl zn_iload (zs_iload_n (q := 2) rfl (by decide +kernel))) <|
  zA_c (zk_V zq_289 zw_1638 rfl (by decide +kernel)) <|
  zA_c (zOk_fl zn_pop (zs_pop (by decide +kernel))) <|
  zA_c (zOk_fl zn_push (zs_iconst (n := 0) (by decide +kernel) rfl)) <|
  zA_c (zOk_fl zn_istore (zs_istore_n (q := 3) rfl (by decide +kernel))) <|
  zA_c (zOk_fl zn_push (zs_iconst (n := 0) (by decide +kernel) rfl)) <|
  zA_c (zOk_fl zn_istore (zs_istore (by decide +kernel))) <|
  zA_c (zOk_fl zn_iload (zs_iload (by decide +kernel))) <|
  zA_c (zOk_fl zn_aload (zs_aload_n (q := 0) rfl (by decide +kernel))) <|
  zA_c (zOk_fl zn_getR (zs_getR (k := 12) rfl (by decide) (by decide +kernel) rfl (by decide +kernel) zw_1191)) <|
  zA_c (zOk_fl zn_iload (zs_iload_n (q := 1) rfl (by decide +kernel))) <|
  zA_c (zOk_fl zn_ald (zs_iald (by decide +kernel))) <|
  zA_c (zOk_fl zn_icge (zs_icge (off := 58) (by decide +kernel) (by decide))) <|
  zA_c (zOk_fl zn_aload (zs_aload_n (q := 0) rfl (by decide +kernel))) <|
  zA_c (zOk_fl zn_iload (zs_iload_n (q := 1) rfl (by decide +kernel))) <|
  zA_c (zOk_fl zn_aload (zs_aload_n (q := 0) rfl (by decide +kernel))) <|
  zA_c (zOk_fl zn_getR (zs_getR (k := 11) rfl (by decide) (by decide +kernel) rfl (by decide +kernel) zw_1190)) <|
  zA_n
def zcl_295_1 : List (Nat × zmI) := [(33, zm_push 36 512), (36, zm_iload 37 1), (37, zm_bin 38 (fun x y => w32 (x * y))), (38, zm_iload 40 4), (40, zm_bin 41 (fun x y => w32 (x + y))), (41, zm_ald 42 100), (42, zm_call 45 258 3 true 12), (45, zm_ifeq 48 76), (48, zm_aload 49 0), (49, zm_getR 52 12 11), (52, zm_push 55 512), (55, zm_iload 56 1), (56, zm_bin 57 (fun x y => w32 (x * y))), (57, zm_iload 58 3), (58, zm_bin 59 (fun x y => w32 (x + y))), (59, zm_aload 60 0), (60, zm_getR 63 12 11), (63, zm_push 66 512)]
theorem zmc_295_1 (l : Launch) : zAll l "ChessWireModel" prog_14_method_102_code 5 false (none) zcl_295_1 :=
  zA_c (zOk_fl zn_push (zs_sipush (n := 512) (by decide +kernel) rfl)) <|
  zA_c (zOk_fl zn_iload (zs_iload_n (q := 1) rfl (by decide +kernel))) <|
  zA_c (zOk_fl zn_bin (zs_imul (by decide +kernel))) <|
  zA_c (zOk_fl zn_iload (zs_iload (by decide +kernel))) <|
  zA_c (zOk_fl zn_bin (zs_iadd (by decide +kernel))) <|
  zA_c (zOk_fl zn_ald (zs_iald (by decide +kernel))) <|
  zA_c (zk_V zq_258 zw_1513 rfl (by decide +kernel)) <|
  zA_c (zOk_fl zn_ifeq (zs_ifeq (off := 31) (by decide +kernel) (by decide))) <|
  zA_c (zOk_fl zn_aload (zs_aload_n (q := 0) rfl (by decide +kernel))) <|
  zA_c (zOk_fl zn_getR (zs_getR (k := 11) rfl (by decide) (by decide +kernel) rfl (by decide +kernel) zw_1190)) <|
  zA_c (zOk_fl zn_push (zs_sipush (n := 512) (by decide +kernel) rfl)) <|
  zA_c (zOk_fl zn_iload (zs_iload_n (q := 1) rfl (by decide +kernel))) <|
  zA_c (zOk_fl zn_bin (zs_imul (by decide +kernel))) <|
  zA_c (zOk_fl zn_iload (zs_iload_n (q := 3) rfl (by decide +kernel))) <|
  zA_c (zOk_fl zn_bin (zs_iadd (by decide +kernel))) <|
  zA_c (zOk_fl zn_aload (zs_aload_n (q := 0) rfl (by decide +kernel))) <|
  zA_c (zOk_fl zn_getR (zs_getR (k := 11) rfl (by decide) (by decide +kernel) rfl (by decide +kernel) zw_1190)) <|
  zA_c (zOk_fl zn_push (zs_sipush (n := 512) (by decide +kernel) rfl)) <|
  zA_n
def zcl_295_2 : List (Nat × zmI) := [(66, zm_iload 67 1), (67, zm_bin 68 (fun x y => w32 (x * y))), (68, zm_iload 70 4), (70, zm_bin 71 (fun x y => w32 (x + y))), (71, zm_ald 72 100), (72, zm_iast 73), (73, zm_iinc 76 3 1), (76, zm_iinc 79 4 1), (79, zm_goto 16), (82, zm_aload 83 0), (83, zm_getR 86 12 12), (86, zm_iload 87 1), (87, zm_iload 88 3), (88, zm_iast 89), (89, zm_aload 90 0), (90, zm_aload 91 0), (91, zm_getI 94 12 37), (94, zm_ifne 97 103)]
theorem zmc_295_2 (l : Launch) : zAll l "ChessWireModel" prog_14_method_102_code 5 false (none) zcl_295_2 :=
  zA_c (zOk_fl zn_iload (zs_iload_n (q := 1) rfl (by decide +kernel))) <|
  zA_c (zOk_fl zn_bin (zs_imul (by decide +kernel))) <|
  zA_c (zOk_fl zn_iload (zs_iload (by decide +kernel))) <|
  zA_c (zOk_fl zn_bin (zs_iadd (by decide +kernel))) <|
  zA_c (zOk_fl zn_ald (zs_iald (by decide +kernel))) <|
  zA_c (zOk_sn zn_iast (zs_iast (by decide +kernel))) <|
  zA_c (zOk_fl zn_iinc (zs_iinc rfl (by decide +kernel))) <|
  zA_c (zOk_fl zn_iinc (zs_iinc rfl (by decide +kernel))) <|
  zA_c (zOk_fl zn_goto (zs_goto (off := (-63)) (by decide +kernel) (by decide))) <|
  zA_c (zOk_fl zn_aload (zs_aload_n (q := 0) rfl (by decide +kernel))) <|
  zA_c (zOk_fl zn_getR (zs_getR (k := 12) rfl (by decide) (by decide +kernel) rfl (by decide +kernel) zw_1191)) <|
  zA_c (zOk_fl zn_iload (zs_iload_n (q := 1) rfl (by decide +kernel))) <|
  zA_c (zOk_fl zn_iload (zs_iload_n (q := 3) rfl (by decide +kernel))) <|
  zA_c (zOk_sn zn_iast (zs_iast (by decide +kernel))) <|
  zA_c (zOk_fl zn_aload (zs_aload_n (q := 0) rfl (by decide +kernel))) <|
  zA_c (zOk_fl zn_aload (zs_aload_n (q := 0) rfl (by decide +kernel))) <|
  zA_c (zOk_fl zn_getI (zs_getI (k := 37) rfl (by decide) (by decide +kernel) rfl (by decide +kernel) zw_1216)) <|
  zA_c (zOk_fl zn_ifne (zs_ifne (off := 9) (by decide +kernel) (by decide))) <|
  zA_n
def zcl_295_3 : List (Nat × zmI) := [(97, zm_iload 98 3), (98, zm_push 100 40), (100, zm_icle 103 107), (103, zm_push 104 1), (104, zm_goto 108), (107, zm_push 108 0), (108, zm_putZ 111 12 37), (111, zm_vret)]
theorem zmc_295_3 (l : Launch) : zAll l "ChessWireModel" prog_14_method_102_code 5 false (none) zcl_295_3 :=
  zA_c (zOk_fl zn_iload (zs_iload_n (q := 3) rfl (by decide +kernel))) <|
  zA_c (zOk_fl zn_push (zs_bipush (n := 40) (by decide +kernel) rfl)) <|
  zA_c (zOk_fl zn_icle (zs_icle (off := 7) (by decide +kernel) (by decide))) <|
  zA_c (zOk_fl zn_push (zs_iconst (n := 1) (by decide +kernel) rfl)) <|
  zA_c (zOk_fl zn_goto (zs_goto (off := 4) (by decide +kernel) (by decide))) <|
  zA_c (zOk_fl zn_push (zs_iconst (n := 0) (by decide +kernel) rfl)) <|
  zA_c (zOk_sn zn_putZ (zs_putZ (k := 37) rfl (by decide) (by decide +kernel) rfl rfl (by decide +kernel) zw_1216)) <|
  zA_c (zs_vret (by decide +kernel) rfl) <|
  zA_n
def zc_295 : Nat → zmI := zgetC [zcl_295_0, zcl_295_1, zcl_295_2, zcl_295_3]
theorem zmf_295 (l : Launch) : zMf l zc_295 295 := ⟨by decide +kernel, false, (fun h => by cases h), fun pc => zgetC_ok (zA2_c (zmc_295_0 l) (zA2_c (zmc_295_1 l) (zA2_c (zmc_295_2 l) (zA2_c (zmc_295_3 l) (zA2_n))))) pc⟩
def zcl_296_0 : List (Nat × zmI) := [(0, zm_aload 1 0), (1, zm_getI 4 12 27), (4, zm_push 5 1), (5, zm_icne 8 16), (8, zm_aload 9 0), (9, zm_iload 10 1), (10, zm_push 11 (-1)), (11, zm_push 12 (-1)), (12, zm_call 15 297 4 false 12), (15, zm_vret), (16, zm_aload 17 0), (17, zm_push 18 0), (18, zm_iload 19 1), (19, zm_call 22 274 3 false 12), (22, zm_aload 23 0), (23, zm_push 24 1), (24, zm_push 25 1), (25, zm_call 28 295 3 false 12), (28, zm_push 29 0), (29, zm_istore 30 2), (30, zm_iload 31 2), (31, zm_aload 32 0)]
theorem zmc_296_0 (l : Launch) : zAll l "ChessWireModel" prog_14_method_106_code 3 false (none) zcl_296_0 :=
  zA_c (zOk_fl zn_aload (zs_aload_n (q := 0) rfl (by decide +kernel))) <|
  zA_c (zOk_fl zn_getI (zs_getI (k := 27) rfl (by decide) (by decide +kernel) rfl (by decide +kernel) zw_1206)) <|
  zA_c (zOk_fl zn_push (zs_iconst (n := 1) (by decide +kernel) rfl)) <|
  zA_c (zOk_fl zn_icne (zs_icne (off := 11) (by decide +kernel) (by decide))) <|
  zA_c (zOk_fl zn_aload (zs_aload_n (q := 0) rfl (by decide +kernel))) <|
  zA_c (zOk_fl zn_iload (zs_iload_n (q := 1) rfl (by decide +kernel))) <|
  zA_c (zOk_fl zn_push (zs_iconst (n := (-1)) (by decide +kernel) rfl)) <|
  zA_c (zOk_fl zn_push (zs_iconst (n := (-1)) (by decide +kernel) rfl)) <|
  zA_c (zk_V zq_297 zw_1670 rfl (by decide +kernel)) <|
  zA_c (zs_vret (by decide +kernel) rfl) <|
  zA_c (zOk_fl zn_aload (zs_aload_n (q := 0) rfl (by decide +kernel))) <|
  zA_c (zOk_fl zn_push (zs_iconst (n := 0) (by decide +kernel) rfl)) <|
  zA_c (zOk_fl zn_iload (zs_iload_n (q := 1) rfl (by decide +kernel))) <|
  zA_c (zk_V zq_274 zw_1580 rfl (by decide +kernel)) <|
  zA_c (zOk_fl zn_aload (zs_aload_n (q := 0) rfl (by decide +kernel))) <|
  zA_c (zOk_fl zn_push (zs_iconst (n := 1) (by decide +kernel) rfl)) <|
  zA_c (zOk_fl zn_push (zs_iconst (n := 1) (by decide +kernel) rfl)) <|
  zA_c (zk_V zq_295 zw_1662 rfl (by decide +kernel)) <|
  zA_c (zOk_fl zn_push (zs_iconst (n := 0) (by decide +kernel) rfl)) <|
  zA_c (zOk_fl zn_istore (zs_istore_n (q := 2) rfl (by decide +kernel))) <|
  zA_c (zOk_fl zn_iload (zs_iload_n (q := 2) rfl (by decide +kernel))) <|
  zA_c (zOk_fl zn_aload (zs_aload_n (q := 0) rfl (by decide +kernel))) <|
  zA_n
def zcl_296_1 : List (Nat × zmI) := [(32, zm_getR 35 12 12), (35, zm_push 36 1), (36, zm_ald 37 100), (37, zm_icge 40 68), (40, zm_aload 41 0), (41, zm_getI 44 12 37), (44, zm_ifne 47 68), (47, zm_aload 48 0), (48, zm_iload 49 1), (49, zm_aload 50 0), (50, zm_getR 53 12 11), (53, zm_push 56 512), (56, zm_iload 57 2), (57, zm_bin 58 (fun x y => w32 (x + y))), (58, zm_ald 59 100), (59, zm_call 62 299 3 false 12), (62, zm_iinc 65 2 1)]
theorem zmc_296_1 (l : Launch) : zAll l "ChessWireModel" prog_14_method_106_code 3 false (none) zcl_296_1 :=
  zA_c (zOk_fl zn_getR (zs_getR (k := 12) rfl (by decide) (by decide +kernel) rfl (by decide +kernel) zw_1191)) <|
  zA_c (zOk_fl zn_push (zs_iconst (n := 1) (by decide +kernel) rfl)) <|
  zA_c (zOk_fl zn_ald (zs_iald (by decide +kernel))) <|
  zA_c (zOk_fl zn_icge (zs_icge (off := 31) (by decide +kernel) (by decide))) <|
  zA_c (zOk_fl zn_aload (zs_aload_n (q := 0) rfl (by decide +kernel))) <|
  zA_c (zOk_fl zn_getI (zs_getI (k := 37) rfl (by decide) (by decide +kernel) rfl (by decide +kernel) zw_1216)) <|
  zA_c (zOk_fl zn_ifne (zs_ifne (off := 24) (by decide +kernel) (by decide))) <|
  zA_c (zOk_fl zn_aload (zs_aload_n (q := 0) rfl (by decide +kernel))) <|
  zA_c (zOk_fl zn_iload (zs_iload_n (q := 1) rfl (by decide +kernel))) <|
  zA_c (zOk_fl zn_aload (zs_aload_n (q := 0) rfl (by decide +kernel))) <|
  zA_c (zOk_fl zn_getR (zs_getR (k := 11) rfl (by decide) (by decide +kernel) rfl (by decide +kernel) zw_1190)) <|
  zA_c (zOk_fl zn_push (zs_sipush (n := 512) (by decide +kernel) rfl)) <|
  zA_c (zOk_fl zn_iload (zs_iload_n (q := 2) rfl (by decide +kernel))) <|
  zA_c (zOk_fl zn_bin (zs_iadd (by decide +kernel))) <|
  zA_c (zOk_fl zn_ald (zs_iald (by decide +kernel))) <|
  zA_c (zk_V zq_299 zw_1678 rfl (by decide +kernel)) <|
  zA_c (zOk_fl zn_iinc (zs_iinc rfl (by decide +kernel))) <|
  zA_n
def zcl_296_2 : List (Nat × zmI) := [(65, zm_goto 30), (68, zm_vret)]
theorem zmc_296_2 (l : Launch) : zAll l "ChessWireModel" prog_14_method_106_code 3 false (none) zcl_296_2 :=
  zA_c (zOk_fl zn_goto (zs_goto (off := (-35)) (by decide +kernel) (by decide))) <|
  zA_c (zs_vret (by decide +kernel) rfl) <|
  zA_n
def zc_296 : Nat → zmI := zgetC [zcl_296_0, zcl_296_1, zcl_296_2]
theorem zmf_296 (l : Launch) : zMf l zc_296 296 := ⟨by decide +kernel, false, (fun h => by cases h), fun pc => zgetC_ok (zA2_c (zmc_296_0 l) (zA2_c (zmc_296_1 l) (zA2_c (zmc_296_2 l) (zA2_n)))) pc⟩
def zcl_297_0 : List (Nat × zmI) := [(0, zm_aload 1 0), (1, zm_getI 4 12 34), (4, zm_ifne 7 28), (7, zm_aload 8 0), (8, zm_getR 11 12 35), (11, zm_push 12 0), (12, zm_iload 13 1), (13, zm_iast 14), (14, zm_aload 15 0), (15, zm_getR 18 12 35), (18, zm_push 19 1), (19, zm_iload 20 2), (20, zm_iast 21), (21, zm_aload 22 0), (22, zm_getR 25 12 35), (25, zm_push 26 2), (26, zm_iload 27 3), (27, zm_iast 28), (28, zm_aload 29 0), (29, zm_dup 30), (30, zm_getI 33 12 34)]
theorem zmc_297_0 (l : Launch) : zAll l "ChessWireModel" prog_14_method_103_code 4 false (none) zcl_297_0 :=
  zA_c (zOk_fl zn_aload (zs_aload_n (q := 0) rfl (by decide +kernel))) <|
  zA_c (zOk_fl zn_getI (zs_getI (k := 34) rfl (by decide) (by decide +kernel) rfl (by decide +kernel) zw_1213)) <|
  zA_c (zOk_fl zn_ifne (zs_ifne (off := 24) (by decide +kernel) (by decide))) <|
  zA_c (zOk_fl zn_aload (zs_aload_n (q := 0) rfl (by decide +kernel))) <|
  zA_c (zOk_fl zn_getR (zs_getR (k := 35) rfl (by decide) (by decide +kernel) rfl (by decide +kernel) zw_1214)) <|
  zA_c (zOk_fl zn_push (zs_iconst (n := 0) (by decide +kernel) rfl)) <|
  zA_c (zOk_fl zn_iload (zs_iload_n (q := 1) rfl (by decide +kernel))) <|
  zA_c (zOk_sn zn_iast (zs_iast (by decide +kernel))) <|
  zA_c (zOk_fl zn_aload (zs_aload_n (q := 0) rfl (by decide +kernel))) <|
  zA_c (zOk_fl zn_getR (zs_getR (k := 35) rfl (by decide) (by decide +kernel) rfl (by decide +kernel) zw_1214)) <|
  zA_c (zOk_fl zn_push (zs_iconst (n := 1) (by decide +kernel) rfl)) <|
  zA_c (zOk_fl zn_iload (zs_iload_n (q := 2) rfl (by decide +kernel))) <|
  zA_c (zOk_sn zn_iast (zs_iast (by decide +kernel))) <|
  zA_c (zOk_fl zn_aload (zs_aload_n (q := 0) rfl (by decide +kernel))) <|
  zA_c (zOk_fl zn_getR (zs_getR (k := 35) rfl (by decide) (by decide +kernel) rfl (by decide +kernel) zw_1214)) <|
  zA_c (zOk_fl zn_push (zs_iconst (n := 2) (by decide +kernel) rfl)) <|
  zA_c (zOk_fl zn_iload (zs_iload_n (q := 3) rfl (by decide +kernel))) <|
  zA_c (zOk_sn zn_iast (zs_iast (by decide +kernel))) <|
  zA_c (zOk_fl zn_aload (zs_aload_n (q := 0) rfl (by decide +kernel))) <|
  zA_c (zOk_fl zn_dup (zs_dup (by decide +kernel))) <|
  zA_c (zOk_fl zn_getI (zs_getI (k := 34) rfl (by decide) (by decide +kernel) rfl (by decide +kernel) zw_1213)) <|
  zA_n
def zcl_297_1 : List (Nat × zmI) := [(33, zm_push 34 1), (34, zm_bin 35 (fun x y => w32 (x + y))), (35, zm_putI 38 12 34), (38, zm_aload 39 0), (39, zm_push 40 0), (40, zm_iload 41 1), (41, zm_call 44 298 3 false 12), (44, zm_aload 45 0), (45, zm_push 46 1), (46, zm_iload 47 2), (47, zm_call 50 298 3 false 12), (50, zm_aload 51 0), (51, zm_push 52 2), (52, zm_iload 53 3), (53, zm_call 56 298 3 false 12), (56, zm_vret)]
theorem zmc_297_1 (l : Launch) : zAll l "ChessWireModel" prog_14_method_103_code 4 false (none) zcl_297_1 :=
  zA_c (zOk_fl zn_push (zs_iconst (n := 1) (by decide +kernel) rfl)) <|
  zA_c (zOk_fl zn_bin (zs_iadd (by decide +kernel))) <|
  zA_c (zOk_sn zn_putI (zs_putI (k := 34) rfl (by decide) (by decide +kernel) rfl rfl (by decide +kernel) zw_1213)) <|
  zA_c (zOk_fl zn_aload (zs_aload_n (q := 0) rfl (by decide +kernel))) <|
  zA_c (zOk_fl zn_push (zs_iconst (n := 0) (by decide +kernel) rfl)) <|
  zA_c (zOk_fl zn_iload (zs_iload_n (q := 1) rfl (by decide +kernel))) <|
  zA_c (zk_V zq_298 zw_1674 rfl (by decide +kernel)) <|
  zA_c (zOk_fl zn_aload (zs_aload_n (q := 0) rfl (by decide +kernel))) <|
  zA_c (zOk_fl zn_push (zs_iconst (n := 1) (by decide +kernel) rfl)) <|
  zA_c (zOk_fl zn_iload (zs_iload_n (q := 2) rfl (by decide +kernel))) <|
  zA_c (zk_V zq_298 zw_1674 rfl (by decide +kernel)) <|
  zA_c (zOk_fl zn_aload (zs_aload_n (q := 0) rfl (by decide +kernel))) <|
  zA_c (zOk_fl zn_push (zs_iconst (n := 2) (by decide +kernel) rfl)) <|
  zA_c (zOk_fl zn_iload (zs_iload_n (q := 3) rfl (by decide +kernel))) <|
  zA_c (zk_V zq_298 zw_1674 rfl (by decide +kernel)) <|
  zA_c (zs_vret (by decide +kernel) rfl) <|
  zA_n
def zc_297 : Nat → zmI := zgetC [zcl_297_0, zcl_297_1]
theorem zmf_297 (l : Launch) : zMf l zc_297 297 := ⟨by decide +kernel, false, (fun h => by cases h), fun pc => zgetC_ok (zA2_c (zmc_297_0 l) (zA2_c (zmc_297_1 l) (zA2_n))) pc⟩
def zcl_298_0 : List (Nat × zmI) := [(0, zm_iload 1 2), (1, zm_push 2 (-1)), (2, zm_iceq 5 18), (5, zm_aload 6 0), (6, zm_getR 9 12 36), (9, zm_push 12 4096), (12, zm_iload 13 1), (13, zm_bin 14 (fun x y => w32 (x * y))), (14, zm_iload 15 2), (15, zm_bin 16 (fun x y => w32 (x + y))), (16, zm_push 17 1), (17, zm_zast 18), (18, zm_vret)]
theorem zmc_298_0 (l : Launch) : zAll l "ChessWireModel" prog_14_method_104_code 3 false (none) zcl_298_0 :=
  zA_c (zOk_fl zn_iload (zs_iload_n (q := 2) rfl (by decide +kernel))) <|
  zA_c (zOk_fl zn_push (zs_iconst (n := (-1)) (by decide +kernel) rfl)) <|
  zA_c (zOk_fl zn_iceq (zs_iceq (off := 16) (by decide +kernel) (by decide))) <|
  zA_c (zOk_fl zn_aload (zs_aload_n (q := 0) rfl (by decide +kernel))) <|
  zA_c (zOk_fl zn_getR (zs_getR (k := 36) rfl (by decide) (by decide +kernel) rfl (by decide +kernel) zw_1215)) <|
  zA_c (zOk_fl zn_push (zs_sipush (n := 4096) (by decide +kernel) rfl)) <|
  zA_c (zOk_fl zn_iload (zs_iload_n (q := 1) rfl (by decide +kernel))) <|
  zA_c (zOk_fl zn_bin (zs_imul (by decide +kernel))) <|
  zA_c (zOk_fl zn_iload (zs_iload_n (q := 2) rfl (by decide +kernel))) <|
  zA_c (zOk_fl zn_bin (zs_iadd (by decide +kernel))) <|
  zA_c (zOk_fl zn_push (zs_iconst (n := 1) (by decide +kernel) rfl)) <|
  zA_c (zOk_sn zn_zast (zs_zast (by decide +kernel))) <|
  zA_c (zs_vret (by decide +kernel) rfl) <|
  zA_n
def zc_298 : Nat → zmI := zgetC [zcl_298_0]
theorem zmf_298 (l : Launch) : zMf l zc_298 298 := ⟨by decide +kernel, false, (fun h => by cases h), fun pc => zgetC_ok (zA2_c (zmc_298_0 l) (zA2_n)) pc⟩
def zcl_299_0 : List (Nat × zmI) := [(0, zm_aload 1 0), (1, zm_getI 4 12 27), (4, zm_push 5 2), (5, zm_icne 8 16), (8, zm_aload 9 0), (9, zm_iload 10 1), (10, zm_iload 11 2), (11, zm_push 12 (-1)), (12, zm_call 15 297 4 false 12), (15, zm_vret), (16, zm_aload 17 0), (17, zm_push 18 1), (18, zm_iload 19 2), (19, zm_call 22 274 3 false 12), (22, zm_aload 23 0), (23, zm_push 24 2), (24, zm_push 25 2), (25, zm_call 28 295 3 false 12), (28, zm_push 29 0), (29, zm_istore 30 3), (30, zm_iload 31 3), (31, zm_aload 32 0)]
theorem zmc_299_0 (l : Launch) : zAll l "ChessWireModel" prog_14_method_105_code 4 false (none) zcl_299_0 :=
  zA_c (zOk_fl zn_aload (zs_aload_n (q := 0) rfl (by decide +kernel))) <|
  zA_c (zOk_fl zn_getI (zs_getI (k := 27) rfl (by decide) (by decide +kernel) rfl (by decide +kernel) zw_1206)) <|
  zA_c (zOk_fl zn_push (zs_iconst (n := 2) (by decide +kernel) rfl)) <|
  zA_c (zOk_fl zn_icne (zs_icne (off := 11) (by decide +kernel) (by decide))) <|
  zA_c (zOk_fl zn_aload (zs_aload_n (q := 0) rfl (by decide +kernel))) <|
  zA_c (zOk_fl zn_iload (zs_iload_n (q := 1) rfl (by decide +kernel))) <|
  zA_c (zOk_fl zn_iload (zs_iload_n (q := 2) rfl (by decide +kernel))) <|
  zA_c (zOk_fl zn_push (zs_iconst (n := (-1)) (by decide +kernel) rfl)) <|
  zA_c (zk_V zq_297 zw_1670 rfl (by decide +kernel)) <|
  zA_c (zs_vret (by decide +kernel) rfl) <|
  zA_c (zOk_fl zn_aload (zs_aload_n (q := 0) rfl (by decide +kernel))) <|
  zA_c (zOk_fl zn_push (zs_iconst (n := 1) (by decide +kernel) rfl)) <|
  zA_c (zOk_fl zn_iload (zs_iload_n (q := 2) rfl (by decide +kernel))) <|
  zA_c (zk_V zq_274 zw_1580 rfl (by decide +kernel)) <|
  zA_c (zOk_fl zn_aload (zs_aload_n (q := 0) rfl (by decide +kernel))) <|
  zA_c (zOk_fl zn_push (zs_iconst (n := 2) (by decide +kernel) rfl)) <|
  zA_c (zOk_fl zn_push (zs_iconst (n := 2) (by decide +kernel) rfl)) <|
  zA_c (zk_V zq_295 zw_1662 rfl (by decide +kernel)) <|
  zA_c (zOk_fl zn_push (zs_iconst (n := 0) (by decide +kernel) rfl)) <|
  zA_c (zOk_fl zn_istore (zs_istore_n (q := 3) rfl (by decide +kernel))) <|
  zA_c (zOk_fl zn_iload (zs_iload_n (q := 3) rfl (by decide +kernel))) <|
  zA_c (zOk_fl zn_aload (zs_aload_n (q := 0) rfl (by decide +kernel))) <|
  zA_n
def zcl_299_1 : List (Nat × zmI) := [(32, zm_getR 35 12 12), (35, zm_push 36 2), (36, zm_ald 37 100), (37, zm_icge 40 62), (40, zm_aload 41 0), (41, zm_iload 42 1), (42, zm_iload 43 2), (43, zm_aload 44 0), (44, zm_getR 47 12 11), (47, zm_push 50 1024), (50, zm_iload 51 3), (51, zm_bin 52 (fun x y => w32 (x + y))), (52, zm_ald 53 100), (53, zm_call 56 297 4 false 12), (56, zm_iinc 59 3 1), (59, zm_goto 30), (62, zm_vret)]
theorem zmc_299_1 (l : Launch) : zAll l "ChessWireModel" prog_14_method_105_code 4 false (none) zcl_299_1 :=
  zA_c (zOk_fl zn_getR (zs_getR (k := 12) rfl (by decide) (by decide +kernel) rfl (by decide +kernel) zw_1191)) <|
  zA_c (zOk_fl zn_push (zs_iconst (n := 2) (by decide +kernel) rfl)) <|
  zA_c (zOk_fl zn_ald (zs_iald (by decide +kernel))) <|
  zA_c (zOk_fl zn_icge (zs_icge (off := 25) (by decide +kernel) (by decide))) <|
  zA_c (zOk_fl zn_aload (zs_aload_n (q := 0) rfl (by decide +kernel))) <|
  zA_c (zOk_fl zn_iload (zs_iload_n (q := 1) rfl (by decide +kernel))) <|
  zA_c (zOk_fl zn_iload (zs_iload_n (q := 2) rfl (by decide +kernel))) <|
  zA_c (zOk_fl zn_aload (zs_aload_n (q := 0) rfl (by decide +kernel))) <|
  zA_c (zOk_fl zn_getR (zs_getR (k := 11) rfl (by decide) (by decide +kernel) rfl (by decide +kernel) zw_1190)) <|
  zA_c (zOk_fl zn_push (zs_sipush (n := 1024) (by decide +kernel) rfl)) <|
  zA_c (zOk_fl zn_iload (zs_iload_n (q := 3) rfl (by decide +kernel))) <|
  zA_c (zOk_fl zn_bin (zs_iadd (by decide +kernel))) <|
  zA_c (zOk_fl zn_ald (zs_iald (by decide +kernel))) <|
  zA_c (zk_V zq_297 zw_1670 rfl (by decide +kernel)) <|
  zA_c (zOk_fl zn_iinc (zs_iinc rfl (by decide +kernel))) <|
  zA_c (zOk_fl zn_goto (zs_goto (off := (-29)) (by decide +kernel) (by decide))) <|
  zA_c (zs_vret (by decide +kernel) rfl) <|
  zA_n
def zc_299 : Nat → zmI := zgetC [zcl_299_0, zcl_299_1]
theorem zmf_299 (l : Launch) : zMf l zc_299 299 := ⟨by decide +kernel, false, (fun h => by cases h), fun pc => zgetC_ok (zA2_c (zmc_299_0 l) (zA2_c (zmc_299_1 l) (zA2_n))) pc⟩
def zcl_300_0 : List (Nat × zmI) := [(0, zm_iload 1 1), (1, zm_i2l 2), (2, zm_pushl 3 0), (3, zm_pushl 6 2), (6, zm_call 9 201 3 true 99), (9, zm_ifeq 12 19), (12, zm_iload 13 2), (13, zm_call 16 279 1 true 99), (16, zm_ifne 19 22), (19, zm_push 21 (-2)), (21, zm_iret), (22, zm_aload 23 0), (23, zm_call 26 294 1 false 12), (26, zm_aload 27 0), (27, zm_getI 30 12 37), (30, zm_ifeq 33 36)]
theorem zmc_300_0 (l : Launch) : zAll l "ChessWireModel" prog_14_method_109_code 5 false (some .int) zcl_300_0 :=
  zA_c (zOk_fl zn_iload (zs_iload_n (q := 1) rfl (by decide +kernel))) <|
  zA_c (zOk_fl zn_i2l (zs_i2l (by decide +kernel))) <|
  zA_c (zOk_fl zn_pushl (zs_lconst (n := 0) (by decide +kernel) rfl)) <|
  zA_c (zOk_fl zn_pushl (zs_ldc2 (by decide +kernel) zw_1303 rfl)) <|
  zA_c (zk_S zq_201 zw_1172 (by decide +kernel)) <|
  zA_c (zOk_fl zn_ifeq (zs_ifeq (off := 10) (by decide +kernel) (by decide))) <|
  zA_c (zOk_fl zn_iload (zs_iload_n (q := 2) rfl (by decide +kernel))) <|
  zA_c (zk_S zq_279 zw_1600 (by decide +kernel)) <|
  zA_c (zOk_fl zn_ifne (zs_ifne (off := 6) (by decide +kernel) (by decide))) <|
  zA_c (zOk_fl zn_push (zs_bipush (n := (-2)) (by decide +kernel) rfl)) <|
  zA_c (zs_iret (by decide +kernel) rfl) <|
  zA_c (zOk_fl zn_aload (zs_aload_n (q := 0) rfl (by decide +kernel))) <|
  zA_c (zk_V zq_294 zw_1658 rfl (by decide +kernel)) <|
  zA_c (zOk_fl zn_aload (zs_aload_n (q := 0) rfl (by decide +kernel))) <|
  zA_c (zOk_fl zn_getI (zs_getI (k := 37) rfl (by decide) (by decide +kernel) rfl (by decide +kernel) zw_1216)) <|
  zA_c (zOk_fl zn_ifeq (zs_ifeq (off := 6) (by decide +kernel) (by decide))) <|
  zA_n
def zcl_300_1 : List (Nat × zmI) := [(33, zm_push 35 (-4)), (35, zm_iret), (36, zm_push 37 0), (37, zm_istore 38 3), (38, zm_push 39 0), (39, zm_istore 41 4), (41, zm_iload 43 4), (43, zm_push 46 4096), (46, zm_icge 49 79), (49, zm_iload 50 3), (50, zm_aload 51 0), (51, zm_getR 54 12 36), (54, zm_push 57 4096), (57, zm_iload 58 1), (58, zm_bin 59 (fun x y => w32 (x * y))), (59, zm_iload 61 4), (61, zm_bin 62 (fun x y => w32 (x + y))), (62, zm_ald 63 102), (63, zm_ifeq 66 70)]
theorem zmc_300_1 (l : Launch) : zAll l "ChessWireModel" prog_14_method_109_code 5 false (some .int) zcl_300_1 :=
  zA_c (zOk_fl zn_push (zs_bipush (n := (-4)) (by decide +kernel) rfl)) <|
  zA_c (zs_iret (by decide +kernel) rfl) <|
  zA_c (zOk_fl zn_push (zs_iconst (n := 0) (by decide +kernel) rfl)) <|
  zA_c (zOk_fl zn_istore (zs_istore_n (q := 3) rfl (by decide +kernel))) <|
  zA_c (zOk_fl zn_push (zs_iconst (n := 0) (by decide +kernel) rfl)) <|
  zA_c (zOk_fl zn_istore (zs_istore (by decide +kernel))) <|
  zA_c (zOk_fl zn_iload (zs_iload (by decide +kernel))) <|
  zA_c (zOk_fl zn_push (zs_sipush (n := 4096) (by decide +kernel) rfl)) <|
  zA_c (zOk_fl zn_icge (zs_icge (off := 33) (by decide +kernel) (by decide))) <|
  zA_c (zOk_fl zn_iload (zs_iload_n (q := 3) rfl (by decide +kernel))) <|
  zA_c (zOk_fl zn_aload (zs_aload_n (q := 0) rfl (by decide +kernel))) <|
  zA_c (zOk_fl zn_getR (zs_getR (k := 36) rfl (by decide) (by decide +kernel) rfl (by decide +kernel) zw_1215)) <|
  zA_c (zOk_fl zn_push (zs_sipush (n := 4096) (by decide +kernel) rfl)) <|
  zA_c (zOk_fl zn_iload (zs_iload_n (q := 1) rfl (by decide +kernel))) <|
  zA_c (zOk_fl zn_bin (zs_imul (by decide +kernel))) <|
  zA_c (zOk_fl zn_iload (zs_iload (by decide +kernel))) <|
  zA_c (zOk_fl zn_bin (zs_iadd (by decide +kernel))) <|
  zA_c (zOk_fl zn_ald (zs_zald (by decide +kernel))) <|
  zA_c (zOk_fl zn_ifeq (zs_ifeq (off := 7) (by decide +kernel) (by decide))) <|
  zA_n
def zcl_300_2 : List (Nat × zmI) := [(66, zm_push 67 1), (67, zm_goto 71), (70, zm_push 71 0), (71, zm_bin 72 (fun x y => w32 (x + y))), (72, zm_istore 73 3), (73, zm_iinc 76 4 1), (76, zm_goto 41), (79, zm_iload 80 2), (80, zm_ifne 83 92), (83, zm_aload 84 0), (84, zm_getR 87 12 35), (87, zm_iload 88 1), (88, zm_ald 89 100), (89, zm_goto 93), (92, zm_iload 93 3), (93, zm_iret)]
theorem zmc_300_2 (l : Launch) : zAll l "ChessWireModel" prog_14_method_109_code 5 false (some .int) zcl_300_2 :=
  zA_c (zOk_fl zn_push (zs_iconst (n := 1) (by decide +kernel) rfl)) <|
  zA_c (zOk_fl zn_goto (zs_goto (off := 4) (by decide +kernel) (by decide))) <|
  zA_c (zOk_fl zn_push (zs_iconst (n := 0) (by decide +kernel) rfl)) <|
  zA_c (zOk_fl zn_bin (zs_iadd (by decide +kernel))) <|
  zA_c (zOk_fl zn_istore (zs_istore_n (q := 3) rfl (by decide +kernel))) <|
  zA_c (zOk_fl zn_iinc (zs_iinc rfl (by decide +kernel))) <|
  zA_c (zOk_fl zn_goto (zs_goto (off := (-35)) (by decide +kernel) (by decide))) <|
  zA_c (zOk_fl zn_iload (zs_iload_n (q := 2) rfl (by decide +kernel))) <|
  zA_c (zOk_fl zn_ifne (zs_ifne (off := 12) (by decide +kernel) (by decide))) <|
  zA_c (zOk_fl zn_aload (zs_aload_n (q := 0) rfl (by decide +kernel))) <|
  zA_c (zOk_fl zn_getR (zs_getR (k := 35) rfl (by decide) (by decide +kernel) rfl (by decide +kernel) zw_1214)) <|
  zA_c (zOk_fl zn_iload (zs_iload_n (q := 1) rfl (by decide +kernel))) <|
  zA_c (zOk_fl zn_ald (zs_iald (by decide +kernel))) <|
  zA_c (zOk_fl zn_goto (zs_goto (off := 4) (by decide +kernel) (by decide))) <|
  zA_c (zOk_fl zn_iload (zs_iload_n (q := 3) rfl (by decide +kernel))) <|
  zA_c (zs_iret (by decide +kernel) rfl) <|
  zA_n
def zc_300 : Nat → zmI := zgetC [zcl_300_0, zcl_300_1, zcl_300_2]
theorem zmf_300 (l : Launch) : zMf l zc_300 300 := ⟨by decide +kernel, false, (fun h => by cases h), fun pc => zgetC_ok (zA2_c (zmc_300_0 l) (zA2_c (zmc_300_1 l) (zA2_c (zmc_300_2 l) (zA2_n)))) pc⟩
def zcl_301_0 : List (Nat × zmI) := [(0, zm_iload 1 1), (1, zm_call 4 204 1 true 99), (4, zm_ifne 7 10), (7, zm_push 9 (-2)), (9, zm_iret), (10, zm_aload 11 0), (11, zm_getR 14 12 0), (14, zm_iload 15 1), (15, zm_ald 16 100), (16, zm_ifge 19 25), (19, zm_aload 20 0), (20, zm_push 21 1), (21, zm_call 24 205 2 true 12), (24, zm_iret), (25, zm_aload 26 0), (26, zm_push 27 0), (27, zm_call 30 232 2 false 12), (30, zm_aload 31 0), (31, zm_getR 34 12 1)]
theorem zmc_301_0 (l : Launch) : zAll l "ChessWireModel" prog_14_method_110_code 4 false (some .int) zcl_301_0 :=
  zA_c (zOk_fl zn_iload (zs_iload_n (q := 1) rfl (by decide +kernel))) <|
  zA_c (zk_S zq_204 zw_1299 (by decide +kernel)) <|
  zA_c (zOk_fl zn_ifne (zs_ifne (off := 6) (by decide +kernel) (by decide))) <|
  zA_c (zOk_fl zn_push (zs_bipush (n := (-2)) (by decide +kernel) rfl)) <|
  zA_c (zs_iret (by decide +kernel) rfl) <|
  zA_c (zOk_fl zn_aload (zs_aload_n (q := 0) rfl (by decide +kernel))) <|
  zA_c (zOk_fl zn_getR (zs_getR (k := 0) rfl (by decide) (by decide +kernel) rfl (by decide +kernel) zw_1179)) <|
  zA_c (zOk_fl zn_iload (zs_iload_n (q := 1) rfl (by decide +kernel))) <|
  zA_c (zOk_fl zn_ald (zs_iald (by decide +kernel))) <|
  zA_c (zOk_fl zn_ifge (zs_ifge (off := 9) (by decide +kernel) (by decide))) <|
  zA_c (zOk_fl zn_aload (zs_aload_n (q := 0) rfl (by decide +kernel))) <|
  zA_c (zOk_fl zn_push (zs_iconst (n := 1) (by decide +kernel) rfl)) <|
  zA_c (zk_V zq_205 zw_1304 rfl (by decide +kernel)) <|
  zA_c (zs_iret (by decide +kernel) rfl) <|
  zA_c (zOk_fl zn_aload (zs_aload_n (q := 0) rfl (by decide +kernel))) <|
  zA_c (zOk_fl zn_push (zs_iconst (n := 0) (by decide +kernel) rfl)) <|
  zA_c (zk_V zq_232 zw_1411 rfl (by decide +kernel)) <|
  zA_c (zOk_fl zn_aload (zs_aload_n (q := 0) rfl (by decide +kernel))) <|
  zA_c (zOk_fl zn_getR (zs_getR (k := 1) rfl (by decide) (by decide +kernel) rfl (by decide +kernel) zw_1180)) <|
  zA_n
def zcl_301_1 : List (Nat × zmI) := [(34, zm_iload 35 1), (35, zm_ald 36 100), (36, zm_aload 37 0), (37, zm_getR 40 12 12), (40, zm_push 41 0), (41, zm_ald 42 100), (42, zm_icge 45 54), (45, zm_aload 46 0), (46, zm_getR 49 12 1), (49, zm_iload 50 1), (50, zm_ald 51 100), (51, zm_goto 60), (54, zm_aload 55 0), (55, zm_getR 58 12 12), (58, zm_push 59 0), (59, zm_ald 60 100), (60, zm_istore 61 2), (61, zm_push 62 0), (62, zm_istore 63 3), (63, zm_iload 64 3)]
theorem zmc_301_1 (l : Launch) : zAll l "ChessWireModel" prog_14_method_110_code 4 false (some .int) zcl_301_1 :=
  zA_c (zOk_fl zn_iload (zs_iload_n (q := 1) rfl (by decide +kernel))) <|
  zA_c (zOk_fl zn_ald (zs_iald (by decide +kernel))) <|
  zA_c (zOk_fl zn_aload (zs_aload_n (q := 0) rfl (by decide +kernel))) <|
  zA_c (zOk_fl zn_getR (zs_getR (k := 12) rfl (by decide) (by decide +kernel) rfl (by decide +kernel) zw_1191)) <|
  zA_c (zOk_fl zn_push (zs_iconst (n := 0) (by decide +kernel) rfl)) <|
  zA_c (zOk_fl zn_ald (zs_iald (by decide +kernel))) <|
  zA_c (zOk_fl zn_icge (zs_icge (off := 12) (by decide +kernel) (by decide))) <|
  zA_c (zOk_fl zn_aload (zs_aload_n (q := 0) rfl (by decide +kernel))) <|
  zA_c (zOk_fl zn_getR (zs_getR (k := 1) rfl (by decide) (by decide +kernel) rfl (by decide +kernel) zw_1180)) <|
  zA_c (zOk_fl zn_iload (zs_iload_n (q := 1) rfl (by decide +kernel))) <|
  zA_c (zOk_fl zn_ald (zs_iald (by decide +kernel))) <|
  zA_c (zOk_fl zn_goto (zs_goto (off := 9) (by decide +kernel) (by decide))) <|
  zA_c (zOk_fl zn_aload (zs_aload_n (q := 0) rfl (by decide +kernel))) <|
  zA_c (zOk_fl zn_getR (zs_getR (k := 12) rfl (by decide) (by decide +kernel) rfl (by decide +kernel) zw_1191)) <|
  zA_c (zOk_fl zn_push (zs_iconst (n := 0) (by decide +kernel) rfl)) <|
  zA_c (zOk_fl zn_ald (zs_iald (by decide +kernel))) <|
  zA_c (zOk_fl zn_istore (zs_istore_n (q := 2) rfl (by decide +kernel))) <|
  zA_c (zOk_fl zn_push (zs_iconst (n := 0) (by decide +kernel) rfl)) <|
  zA_c (zOk_fl zn_istore (zs_istore_n (q := 3) rfl (by decide +kernel))) <|
  zA_c (zOk_fl zn_iload (zs_iload_n (q := 3) rfl (by decide +kernel))) <|
  zA_n
def zcl_301_2 : List (Nat × zmI) := [(64, zm_iload 65 2), (65, zm_icge 68 100), (68, zm_aload 69 0), (69, zm_getR 72 12 2), (72, zm_push 74 60), (74, zm_iload 75 1), (75, zm_bin 76 (fun x y => w32 (x * y))), (76, zm_iload 77 3), (77, zm_bin 78 (fun x y => w32 (x + y))), (78, zm_aload 79 0), (79, zm_getR 82 12 0), (82, zm_iload 83 1), (83, zm_ald 84 100), (84, zm_aload 85 0), (85, zm_getR 88 12 11), (88, zm_iload 89 3), (89, zm_ald 90 100), (90, zm_call 93 209 2 true 99), (93, zm_iast 94), (94, zm_iinc 97 3 1)]
theorem zmc_301_2 (l : Launch) : zAll l "ChessWireModel" prog_14_method_110_code 4 false (some .int) zcl_301_2 :=
  zA_c (zOk_fl zn_iload (zs_iload_n (q := 2) rfl (by decide +kernel))) <|
  zA_c (zOk_fl zn_icge (zs_icge (off := 35) (by decide +kernel) (by decide))) <|
  zA_c (zOk_fl zn_aload (zs_aload_n (q := 0) rfl (by decide +kernel))) <|
  zA_c (zOk_fl zn_getR (zs_getR (k := 2) rfl (by decide) (by decide +kernel) rfl (by decide +kernel) zw_1181)) <|
  zA_c (zOk_fl zn_push (zs_bipush (n := 60) (by decide +kernel) rfl)) <|
  zA_c (zOk_fl zn_iload (zs_iload_n (q := 1) rfl (by decide +kernel))) <|
  zA_c (zOk_fl zn_bin (zs_imul (by decide +kernel))) <|
  zA_c (zOk_fl zn_iload (zs_iload_n (q := 3) rfl (by decide +kernel))) <|
  zA_c (zOk_fl zn_bin (zs_iadd (by decide +kernel))) <|
  zA_c (zOk_fl zn_aload (zs_aload_n (q := 0) rfl (by decide +kernel))) <|
  zA_c (zOk_fl zn_getR (zs_getR (k := 0) rfl (by decide) (by decide +kernel) rfl (by decide +kernel) zw_1179)) <|
  zA_c (zOk_fl zn_iload (zs_iload_n (q := 1) rfl (by decide +kernel))) <|
  zA_c (zOk_fl zn_ald (zs_iald (by decide +kernel))) <|
  zA_c (zOk_fl zn_aload (zs_aload_n (q := 0) rfl (by decide +kernel))) <|
  zA_c (zOk_fl zn_getR (zs_getR (k := 11) rfl (by decide) (by decide +kernel) rfl (by decide +kernel) zw_1190)) <|
  zA_c (zOk_fl zn_iload (zs_iload_n (q := 3) rfl (by decide +kernel))) <|
  zA_c (zOk_fl zn_ald (zs_iald (by decide +kernel))) <|
  zA_c (zk_S zq_209 zw_1320 (by decide +kernel)) <|
  zA_c (zOk_sn zn_iast (zs_iast (by decide +kernel))) <|
  zA_c (zOk_fl zn_iinc (zs_iinc rfl (by decide +kernel))) <|
  zA_n
def zcl_301_3 : List (Nat × zmI) := [(97, zm_goto 63), (100, zm_iload 101 2), (101, zm_iret)]
theorem zmc_301_3 (l : Launch) : zAll l "ChessWireModel" prog_14_method_110_code 4 false (some .int) zcl_301_3 :=
  zA_c (zOk_fl zn_goto (zs_goto (off := (-34)) (by decide +kernel) (by decide))) <|
  zA_c (zOk_fl zn_iload (zs_iload_n (q := 2) rfl (by decide +kernel))) <|
  zA_c (zs_iret (by decide +kernel) rfl) <|
  zA_n
def zc_301 : Nat → zmI := zgetC [zcl_301_0, zcl_301_1, zcl_301_2, zcl_301_3]
theorem zmf_301 (l : Launch) : zMf l zc_301 301 := ⟨by decide +kernel, false, (fun h => by cases h), fun pc => zgetC_ok (zA2_c (zmc_301_0 l) (zA2_c (zmc_301_1 l) (zA2_c (zmc_301_2 l) (zA2_c (zmc_301_3 l) (zA2_n))))) pc⟩
def zcl_302_0 : List (Nat × zmI) := [(0, zm_push 1 0), (1, zm_istore 2 2), (2, zm_iload 3 1), (3, zm_tsw 168 0 8 [52, 52, 100, 100, 100, 109, 114, 124, 163])]
theorem zmc_302_0 (l : Launch) : zAll l "ChessWireModel" prog_14_method_111_code 4 false (some .int) zcl_302_0 :=
  zA_c (zOk_fl zn_push (zs_iconst (n := 0) (by decide +kernel) rfl)) <|
  zA_c (zOk_fl zn_istore (zs_istore_n (q := 2) rfl (by decide +kernel))) <|
  zA_c (zOk_fl zn_iload (zs_iload_n (q := 1) rfl (by decide +kernel))) <|
  zA_c (zOk_fl zn_tsw (zs_tsw (d0 := 165) (offs := #[49, 49, 97, 97, 97, 106, 111, 121, 160]) (len := 49) (by decide +kernel) (by decide) (by decide) (by decide))) <|
  zA_n
def zcl_302_1 : List (Nat × zmI) := [(52, zm_push 53 0), (53, zm_istore 54 3), (54, zm_iload 55 3), (55, zm_push 57 64), (57, zm_icge 60 98), (60, zm_iload 61 2), (61, zm_aload 62 0), (62, zm_getR 65 12 8)]
theorem zmc_302_1 (l : Launch) : zAll l "ChessWireModel" prog_14_method_111_code 4 false (some .int) zcl_302_1 :=
  zA_c (zOk_fl zn_push (zs_iconst (n := 0) (by decide +kernel) rfl)) <|
  zA_c (zOk_fl zn_istore (zs_istore_n (q := 3) rfl (by decide +kernel))) <|
  zA_c (zOk_fl zn_iload (zs_iload_n (q := 3) rfl (by decide +kernel))) <|
  zA_c (zOk_fl zn_push (zs_bipush (n := 64) (by decide +kernel) rfl)) <|
  zA_c (zOk_fl zn_icge (zs_icge (off := 41) (by decide +kernel) (by decide))) <|
  zA_c (zOk_fl zn_iload (zs_iload_n (q := 2) rfl (by decide +kernel))) <|
  zA_c (zOk_fl zn_aload (zs_aload_n (q := 0) rfl (by decide +kernel))) <|
  zA_c (zOk_fl zn_getR (zs_getR (k := 8) rfl (by decide) (by decide +kernel) rfl (by decide +kernel) zw_1187)) <|
  zA_n
def zcl_302_2 : List (Nat × zmI) := [(65, zm_iload 66 3), (66, zm_ald 67 100), (67, zm_ifle 70 89), (70, zm_iload 71 1), (71, zm_ifeq 74 85), (74, zm_aload 75 0), (75, zm_getR 78 12 8), (78, zm_iload 79 3), (79, zm_ald 80 100), (80, zm_push 82 8), (82, zm_icge 85 89), (85, zm_push 86 1), (86, zm_goto 90), (89, zm_push 90 0), (90, zm_bin 91 (fun x y => w32 (x + y))), (91, zm_istore 92 2), (92, zm_iinc 95 3 1), (95, zm_goto 54)]
theorem zmc_302_2 (l : Launch) : zAll l "ChessWireModel" prog_14_method_111_code 4 false (some .int) zcl_302_2 :=
  zA_c (zOk_fl zn_iload (zs_iload_n (q := 3) rfl (by decide +kernel))) <|
  zA_c (zOk_fl zn_ald (zs_iald (by decide +kernel))) <|
  zA_c (zOk_fl zn_ifle (zs_ifle (off := 22) (by decide +kernel) (by decide))) <|
  zA_c (zOk_fl zn_iload (zs_iload_n (q := 1) rfl (by decide +kernel))) <|
  zA_c (zOk_fl zn_ifeq (zs_ifeq (off := 14) (by decide +kernel) (by decide))) <|
  zA_c (zOk_fl zn_aload (zs_aload_n (q := 0) rfl (by decide +kernel))) <|
  zA_c (zOk_fl zn_getR (zs_getR (k := 8) rfl (by decide) (by decide +kernel) rfl (by decide +kernel) zw_1187)) <|
  zA_c (zOk_fl zn_iload (zs_iload_n (q := 3) rfl (by decide +kernel))) <|
  zA_c (zOk_fl zn_ald (zs_iald (by decide +kernel))) <|
  zA_c (zOk_fl zn_push (zs_bipush (n := 8) (by decide +kernel) rfl)) <|
  zA_c (zOk_fl zn_icge (zs_icge (off := 7) (by decide +kernel) (by decide))) <|
  zA_c (zOk_fl zn_push (zs_iconst (n := 1) (by decide +kernel) rfl)) <|
  zA_c (zOk_fl zn_goto (zs_goto (off := 4) (by decide +kernel) (by decide))) <|
  zA_c (zOk_fl zn_push (zs_iconst (n := 0) (by decide +kernel) rfl)) <|
  zA_c (zOk_fl zn_bin (zs_iadd (by decide +kernel))) <|
  zA_c (zOk_fl zn_istore (zs_istore_n (q := 2) rfl (by decide +kernel))) <|
  zA_c (zOk_fl zn_iinc (zs_iinc rfl (by decide +kernel))) <|
  zA_c (zOk_fl zn_goto (zs_goto (off := (-41)) (by decide +kernel) (by decide))) <|
  zA_n
def zcl_302_3 : List (Nat × zmI) := [(98, zm_iload 99 2), (99, zm_iret), (100, zm_aload 101 0), (101, zm_getR 104 12 6), (104, zm_iload 105 1), (105, zm_push 106 2), (106, zm_bin 107 (fun x y => w32 (x - y))), (107, zm_ald 108 100), (108, zm_iret), (109, zm_aload 110 0), (110, zm_getI 113 12 10), (113, zm_iret), (114, zm_aload 115 0), (115, zm_call 118 223 1 true 12), (118, zm_pop 119), (119, zm_aload 120 0), (120, zm_getI 123 12 27), (123, zm_iret), (124, zm_aload 125 0), (125, zm_push 126 0), (126, zm_call 129 232 2 false 12)]
theorem zmc_302_3 (l : Launch) : zAll l "ChessWireModel" prog_14_method_111_code 4 false (some .int) zcl_302_3 :=
  zA_c (zOk_fl zn_iload (zs_iload_n (q := 2) rfl (by decide +kernel))) <|
  zA_c (zs_iret (by decide +kernel) rfl) <|
  zA_c (zOk_fl zn_aload (zs_aload_n (q := 0) rfl (by decide +kernel))) <|
  zA_c (zOk_fl zn_getR (zs_getR (k := 6) rfl (by decide) (by decide +kernel) rfl (by decide +kernel) zw_1185)) <|
  zA_c (zOk_fl zn_iload (zs_iload_n (q := 1) rfl (by decide +kernel))) <|
  zA_c (zOk_fl zn_push (zs_iconst (n := 2) (by decide +kernel) rfl)) <|
  zA_c (zOk_fl zn_bin (zs_isub (by decide +kernel))) <|
  zA_c (zOk_fl zn_ald (zs_iald (by decide +kernel))) <|
  zA_c (zs_iret (by decide +kernel) rfl) <|
  zA_c (zOk_fl zn_aload (zs_aload_n (q := 0) rfl (by decide +kernel))) <|
  zA_c (zOk_fl zn_getI (zs_getI (k := 10) rfl (by decide) (by decide +kernel) rfl (by decide +kernel) zw_1189)) <|
  zA_c (zs_iret (by decide +kernel) rfl) <|
  zA_c (zOk_fl zn_aload (zs_aload_n (q := 0) rfl (by decide +kernel))) <|
  zA_c (zk_V zq_223 zw_1377 rfl (by decide +kernel)) <|
  zA_c (zOk_fl zn_pop (zs_pop (by decide +kernel))) <|
  zA_c (zOk_fl zn_aload (zs_aload_n (q := 0) rfl (by decide +kernel))) <|
  zA_c (zOk_fl zn_getI (zs_getI (k := 27) rfl (by decide) (by decide +kernel) rfl (by decide +kernel) zw_1206)) <|
  zA_c (zs_iret (by decide +kernel) rfl) <|
  zA_c (zOk_fl zn_aload (zs_aload_n (q := 0) rfl (by decide +kernel))) <|
  zA_c (zOk_fl zn_push (zs_iconst (n := 0) (by decide +kernel) rfl)) <|
  zA_c (zk_V zq_232 zw_1411 rfl (by decide +kernel)) <|
  zA_n
def zcl_302_4 : List (Nat × zmI) := [(129, zm_push 130 0), (130, zm_istore 131 3), (131, zm_iload 132 3), (132, zm_aload 133 0), (133, zm_getR 136 12 12), (136, zm_push 137 0), (137, zm_ald 138 100), (138, zm_icge 141 161), (141, zm_iload 142 2), (142, zm_aload 143 0), (143, zm_push 144 0), (144, zm_aload 145 0), (145, zm_getR 148 12 11), (148, zm_iload 149 3), (149, zm_ald 150 100), (150, zm_call 153 269 3 true 12), (153, zm_bin 154 (fun x y => w32 (x + y))), (154, zm_istore 155 2), (155, zm_iinc 158 3 1), (158, zm_goto 131)]
theorem zmc_302_4 (l : Launch) : zAll l "ChessWireModel" prog_14_method_111_code 4 false (some .int) zcl_302_4 :=
  zA_c (zOk_fl zn_push (zs_iconst (n := 0) (by decide +kernel) rfl)) <|
  zA_c (zOk_fl zn_istore (zs_istore_n (q := 3) rfl (by decide +kernel))) <|
  zA_c (zOk_fl zn_iload (zs_iload_n (q := 3) rfl (by decide +kernel))) <|
  zA_c (zOk_fl zn_aload (zs_aload_n (q := 0) rfl (by decide +kernel))) <|
  zA_c (zOk_fl zn_getR (zs_getR (k := 12) rfl (by decide) (by decide +kernel) rfl (by decide +kernel) zw_1191)) <|
  zA_c (zOk_fl zn_push (zs_iconst (n := 0) (by decide +kernel) rfl)) <|
  zA_c (zOk_fl zn_ald (zs_iald (by decide +kernel))) <|
  zA_c (zOk_fl zn_icge (zs_icge (off := 23) (by decide +kernel) (by decide))) <|
  zA_c (zOk_fl zn_iload (zs_iload_n (q := 2) rfl (by decide +kernel))) <|
  zA_c (zOk_fl zn_aload (zs_aload_n (q := 0) rfl (by decide +kernel))) <|
  zA_c (zOk_fl zn_push (zs_iconst (n := 0) (by decide +kernel) rfl)) <|
  zA_c (zOk_fl zn_aload (zs_aload_n (q := 0) rfl (by decide +kernel))) <|
  zA_c (zOk_fl zn_getR (zs_getR (k := 11) rfl (by decide) (by decide +kernel) rfl (by decide +kernel) zw_1190)) <|
  zA_c (zOk_fl zn_iload (zs_iload_n (q := 3) rfl (by decide +kernel))) <|
  zA_c (zOk_fl zn_ald (zs_iald (by decide +kernel))) <|
  zA_c (zk_V zq_269 zw_1560 rfl (by decide +kernel)) <|
  zA_c (zOk_fl zn_bin (zs_iadd (by decide +kernel))) <|
  zA_c (zOk_fl zn_istore (zs_istore_n (q := 2) rfl (by decide +kernel))) <|
  zA_c (zOk_fl zn_iinc (zs_iinc rfl (by decide +kernel))) <|
  zA_c (zOk_fl zn_goto (zs_goto (off := (-27)) (by decide +kernel) (by decide))) <|
  zA_n
def zcl_302_5 : List (Nat × zmI) := [(161, zm_iload 162 2), (162, zm_iret), (163, zm_aload 164 0), (164, zm_getI 167 12 4), (167, zm_iret), (168, zm_push 170 (-2)), (170, zm_iret)]
theorem zmc_302_5 (l : Launch) : zAll l "ChessWireModel" prog_14_method_111_code 4 false (some .int) zcl_302_5 :=
  zA_c (zOk_fl zn_iload (zs_iload_n (q := 2) rfl (by decide +kernel))) <|
  zA_c (zs_iret (by decide +kernel) rfl) <|
  zA_c (zOk_fl zn_aload (zs_aload_n (q := 0) rfl (by decide +kernel))) <|
  zA_c (zOk_fl zn_getI (zs_getI (k := 4) rfl (by decide) (by decide +kernel) rfl (by decide +kernel) zw_1183)) <|
  zA_c (zs_iret (by decide +kernel) rfl) <|
  zA_c (zOk_fl zn_push (zs_bipush (n := (-2)) (by decide +kernel) rfl)) <|
  zA_c (zs_iret (by decide +kernel) rfl) <|
  zA_n
def zc_302 : Nat → zmI := zgetC [zcl_302_0, zcl_302_1, zcl_302_2, zcl_302_3, zcl_302_4, zcl_302_5]
theorem zmf_302 (l : Launch) : zMf l zc_302 302 := ⟨by decide +kernel, false, (fun h => by cases h), fun pc => zgetC_ok (zA2_c (zmc_302_0 l) (zA2_c (zmc_302_1 l) (zA2_c (zmc_302_2 l) (zA2_c (zmc_302_3 l) (zA2_c (zmc_302_4 l) (zA2_c (zmc_302_5 l) (zA2_n))))))) pc⟩
def zcl_303_0 : List (Nat × zmI) := [(0, zm_pushl 3 17), (3, zm_lstore 4 1), (4, zm_push 5 0), (5, zm_istore 6 3), (6, zm_iload 7 3), (7, zm_push 9 8), (9, zm_icge 12 31), (12, zm_pushl 15 31), (15, zm_lload 16 1), (16, zm_binl 17 (fun x y => w64 (x * y))), (17, zm_aload 18 0), (18, zm_iload 19 3), (19, zm_call 22 302 2 true 12), (22, zm_i2l 23), (23, zm_binl 24 (fun x y => w64 (x + y))), (24, zm_lstore 25 1), (25, zm_iinc 28 3 1), (28, zm_goto 6), (31, zm_push 32 0)]
theorem zmc_303_0 (l : Launch) : zAll l "ChessWireModel" prog_14_method_112_code 6 false (some .long) zcl_303_0 :=
  zA_c (zOk_fl zn_pushl (zs_ldc2 (by decide +kernel) zw_1698 rfl)) <|
  zA_c (zOk_fl zn_lstore (zs_lstore_n (q := 1) rfl (by decide +kernel))) <|
  zA_c (zOk_fl zn_push (zs_iconst (n := 0) (by decide +kernel) rfl)) <|
  zA_c (zOk_fl zn_istore (zs_istore_n (q := 3) rfl (by decide +kernel))) <|
  zA_c (zOk_fl zn_iload (zs_iload_n (q := 3) rfl (by decide +kernel))) <|
  zA_c (zOk_fl zn_push (zs_bipush (n := 8) (by decide +kernel) rfl)) <|
  zA_c (zOk_fl zn_icge (zs_icge (off := 22) (by decide +kernel) (by decide))) <|
  zA_c (zOk_fl zn_pushl (zs_ldc2 (by decide +kernel) zw_1699 rfl)) <|
  zA_c (zOk_fl zn_lload (zs_lload_n (q := 1) rfl (by decide +kernel))) <|
  zA_c (zOk_fl zn_binl (zs_lmul (by decide +kernel))) <|
  zA_c (zOk_fl zn_aload (zs_aload_n (q := 0) rfl (by decide +kernel))) <|
  zA_c (zOk_fl zn_iload (zs_iload_n (q := 3) rfl (by decide +kernel))) <|
  zA_c (zk_V zq_302 zw_1700 rfl (by decide +kernel)) <|
  zA_c (zOk_fl zn_i2l (zs_i2l (by decide +kernel))) <|
  zA_c (zOk_fl zn_binl (zs_ladd (by decide +kernel))) <|
  zA_c (zOk_fl zn_lstore (zs_lstore_n (q := 1) rfl (by decide +kernel))) <|
  zA_c (zOk_fl zn_iinc (zs_iinc rfl (by decide +kernel))) <|
  zA_c (zOk_fl zn_goto (zs_goto (off := (-22)) (by decide +kernel) (by decide))) <|
  zA_c (zOk_fl zn_push (zs_iconst (n := 0) (by decide +kernel) rfl)) <|
  zA_n
def zcl_303_1 : List (Nat × zmI) := [(32, zm_istore 33 3), (33, zm_iload 34 3), (34, zm_push 35 3), (35, zm_icge 38 57), (38, zm_pushl 41 31), (41, zm_lload 42 1), (42, zm_binl 43 (fun x y => w64 (x * y))), (43, zm_aload 44 0), (44, zm_iload 45 3), (45, zm_call 48 216 2 true 12), (48, zm_i2l 49), (49, zm_binl 50 (fun x y => w64 (x + y))), (50, zm_lstore 51 1), (51, zm_iinc 54 3 1), (54, zm_goto 33), (57, zm_push 58 0), (58, zm_istore 59 3), (59, zm_iload 60 3), (60, zm_push 62 64), (62, zm_icge 65 88)]
theorem zmc_303_1 (l : Launch) : zAll l "ChessWireModel" prog_14_method_112_code 6 false (some .long) zcl_303_1 :=
  zA_c (zOk_fl zn_istore (zs_istore_n (q := 3) rfl (by decide +kernel))) <|
  zA_c (zOk_fl zn_iload (zs_iload_n (q := 3) rfl (by decide +kernel))) <|
  zA_c (zOk_fl zn_push (zs_iconst (n := 3) (by decide +kernel) rfl)) <|
  zA_c (zOk_fl zn_icge (zs_icge (off := 22) (by decide +kernel) (by decide))) <|
  zA_c (zOk_fl zn_pushl (zs_ldc2 (by decide +kernel) zw_1699 rfl)) <|
  zA_c (zOk_fl zn_lload (zs_lload_n (q := 1) rfl (by decide +kernel))) <|
  zA_c (zOk_fl zn_binl (zs_lmul (by decide +kernel))) <|
  zA_c (zOk_fl zn_aload (zs_aload_n (q := 0) rfl (by decide +kernel))) <|
  zA_c (zOk_fl zn_iload (zs_iload_n (q := 3) rfl (by decide +kernel))) <|
  zA_c (zk_V zq_216 zw_1348 rfl (by decide +kernel)) <|
  zA_c (zOk_fl zn_i2l (zs_i2l (by decide +kernel))) <|
  zA_c (zOk_fl zn_binl (zs_ladd (by decide +kernel))) <|
  zA_c (zOk_fl zn_lstore (zs_lstore_n (q := 1) rfl (by decide +kernel))) <|
  zA_c (zOk_fl zn_iinc (zs_iinc rfl (by decide +kernel))) <|
  zA_c (zOk_fl zn_goto (zs_goto (off := (-21)) (by decide +kernel) (by decide))) <|
  zA_c (zOk_fl zn_push (zs_iconst (n := 0) (by decide +kernel) rfl)) <|
  zA_c (zOk_fl zn_istore (zs_istore_n (q := 3) rfl (by decide +kernel))) <|
  zA_c (zOk_fl zn_iload (zs_iload_n (q := 3) rfl (by decide +kernel))) <|
  zA_c (zOk_fl zn_push (zs_bipush (n := 64) (by decide +kernel) rfl)) <|
  zA_c (zOk_fl zn_icge (zs_icge (off := 26) (by decide +kernel) (by decide))) <|
  zA_n
def zcl_303_2 : List (Nat × zmI) := [(65, zm_pushl 68 31), (68, zm_lload 69 1), (69, zm_binl 70 (fun x y => w64 (x * y))), (70, zm_aload 71 0), (71, zm_getR 74 12 8), (74, zm_iload 75 3), (75, zm_ald 76 100), (76, zm_call 79 227 1 true 99), (79, zm_i2l 80), (80, zm_binl 81 (fun x y => w64 (x + y))), (81, zm_lstore 82 1), (82, zm_iinc 85 3 1), (85, zm_goto 59), (88, zm_pushl 91 31), (91, zm_lload 92 1), (92, zm_binl 93 (fun x y => w64 (x * y))), (93, zm_aload 94 0), (94, zm_call 97 229 1 true 12)]
theorem zmc_303_2 (l : Launch) : zAll l "ChessWireModel" prog_14_method_112_code 6 false (some .long) zcl_303_2 :=
  zA_c (zOk_fl zn_pushl (zs_ldc2 (by decide +kernel) zw_1699 rfl)) <|
  zA_c (zOk_fl zn_lload (zs_lload_n (q := 1) rfl (by decide +kernel))) <|
  zA_c (zOk_fl zn_binl (zs_lmul (by decide +kernel))) <|
  zA_c (zOk_fl zn_aload (zs_aload_n (q := 0) rfl (by decide +kernel))) <|
  zA_c (zOk_fl zn_getR (zs_getR (k := 8) rfl (by decide) (by decide +kernel) rfl (by decide +kernel) zw_1187)) <|
  zA_c (zOk_fl zn_iload (zs_iload_n (q := 3) rfl (by decide +kernel))) <|
  zA_c (zOk_fl zn_ald (zs_iald (by decide +kernel))) <|
  zA_c (zk_S zq_227 zw_1393 (by decide +kernel)) <|
  zA_c (zOk_fl zn_i2l (zs_i2l (by decide +kernel))) <|
  zA_c (zOk_fl zn_binl (zs_ladd (by decide +kernel))) <|
  zA_c (zOk_fl zn_lstore (zs_lstore_n (q := 1) rfl (by decide +kernel))) <|
  zA_c (zOk_fl zn_iinc (zs_iinc rfl (by decide +kernel))) <|
  zA_c (zOk_fl zn_goto (zs_goto (off := (-26)) (by decide +kernel) (by decide))) <|
  zA_c (zOk_fl zn_pushl (zs_ldc2 (by decide +kernel) zw_1699 rfl)) <|
  zA_c (zOk_fl zn_lload (zs_lload_n (q := 1) rfl (by decide +kernel))) <|
  zA_c (zOk_fl zn_binl (zs_lmul (by decide +kernel))) <|
  zA_c (zOk_fl zn_aload (zs_aload_n (q := 0) rfl (by decide +kernel))) <|
  zA_c (zk_V zq_229 zw_1701 rfl (by decide +kernel)) <|
  zA_n
def zcl_303_3 : List (Nat × zmI) := [(97, zm_i2l 98), (98, zm_binl 99 (fun x y => w64 (x + y))), (99, zm_lstore 100 1), (100, zm_pushl 103 31), (103, zm_lload 104 1), (104, zm_binl 105 (fun x y => w64 (x * y))), (105, zm_aload 106 0), (106, zm_call 109 246 1 true 12), (109, zm_i2l 110), (110, zm_binl 111 (fun x y => w64 (x + y))), (111, zm_lstore 112 1), (112, zm_pushl 115 31), (115, zm_lload 116 1), (116, zm_binl 117 (fun x y => w64 (x * y))), (117, zm_aload 118 0), (118, zm_push 119 (-1)), (119, zm_call 122 231 2 true 12), (122, zm_i2l 123), (123, zm_binl 124 (fun x y => w64 (x + y))), (124, zm_lstore 125 1), (125, zm_pushl 128 31)]
theorem zmc_303_3 (l : Launch) : zAll l "ChessWireModel" prog_14_method_112_code 6 false (some .long) zcl_303_3 :=
  zA_c (zOk_fl zn_i2l (zs_i2l (by decide +kernel))) <|
  zA_c (zOk_fl zn_binl (zs_ladd (by decide +kernel))) <|
  zA_c (zOk_fl zn_lstore (zs_lstore_n (q := 1) rfl (by decide +kernel))) <|
  zA_c (zOk_fl zn_pushl (zs_ldc2 (by decide +kernel) zw_1699 rfl)) <|
  zA_c (zOk_fl zn_lload (zs_lload_n (q := 1) rfl (by decide +kernel))) <|
  zA_c (zOk_fl zn_binl (zs_lmul (by decide +kernel))) <|
  zA_c (zOk_fl zn_aload (zs_aload_n (q := 0) rfl (by decide +kernel))) <|
  zA_c (zk_V zq_246 zw_1464 rfl (by decide +kernel)) <|
  zA_c (zOk_fl zn_i2l (zs_i2l (by decide +kernel))) <|
  zA_c (zOk_fl zn_binl (zs_ladd (by decide +kernel))) <|
  zA_c (zOk_fl zn_lstore (zs_lstore_n (q := 1) rfl (by decide +kernel))) <|
  zA_c (zOk_fl zn_pushl (zs_ldc2 (by decide +kernel) zw_1699 rfl)) <|
  zA_c (zOk_fl zn_lload (zs_lload_n (q := 1) rfl (by decide +kernel))) <|
  zA_c (zOk_fl zn_binl (zs_lmul (by decide +kernel))) <|
  zA_c (zOk_fl zn_aload (zs_aload_n (q := 0) rfl (by decide +kernel))) <|
  zA_c (zOk_fl zn_push (zs_iconst (n := (-1)) (by decide +kernel) rfl)) <|
  zA_c (zk_V zq_231 zw_1407 rfl (by decide +kernel)) <|
  zA_c (zOk_fl zn_i2l (zs_i2l (by decide +kernel))) <|
  zA_c (zOk_fl zn_binl (zs_ladd (by decide +kernel))) <|
  zA_c (zOk_fl zn_lstore (zs_lstore_n (q := 1) rfl (by decide +kernel))) <|
  zA_c (zOk_fl zn_pushl (zs_ldc2 (by decide +kernel) zw_1699 rfl)) <|
  zA_n
def zcl_303_4 : List (Nat × zmI) := [(128, zm_lload 129 1), (129, zm_binl 130 (fun x y => w64 (x * y))), (130, zm_aload 131 0), (131, zm_call 134 260 1 true 12), (134, zm_i2l 135), (135, zm_binl 136 (fun x y => w64 (x + y))), (136, zm_lstore 137 1), (137, zm_pushl 140 31), (140, zm_lload 141 1), (141, zm_binl 142 (fun x y => w64 (x * y))), (142, zm_aload 143 0), (143, zm_push 144 (-1)), (144, zm_call 147 262 2 true 12), (147, zm_i2l 148), (148, zm_binl 149 (fun x y => w64 (x + y))), (149, zm_lstore 150 1), (150, zm_pushl 153 31), (153, zm_lload 154 1), (154, zm_binl 155 (fun x y => w64 (x * y))), (155, zm_aload 156 0), (156, zm_push 157 0), (157, zm_call 160 262 2 true 12)]
theorem zmc_303_4 (l : Launch) : zAll l "ChessWireModel" prog_14_method_112_code 6 false (some .long) zcl_303_4 :=
  zA_c (zOk_fl zn_lload (zs_lload_n (q := 1) rfl (by decide +kernel))) <|
  zA_c (zOk_fl zn_binl (zs_lmul (by decide +kernel))) <|
  zA_c (zOk_fl zn_aload (zs_aload_n (q := 0) rfl (by decide +kernel))) <|
  zA_c (zk_V zq_260 zw_1521 rfl (by decide +kernel)) <|
  zA_c (zOk_fl zn_i2l (zs_i2l (by decide +kernel))) <|
  zA_c (zOk_fl zn_binl (zs_ladd (by decide +kernel))) <|
  zA_c (zOk_fl zn_lstore (zs_lstore_n (q := 1) rfl (by decide +kernel))) <|
  zA_c (zOk_fl zn_pushl (zs_ldc2 (by decide +kernel) zw_1699 rfl)) <|
  zA_c (zOk_fl zn_lload (zs_lload_n (q := 1) rfl (by decide +kernel))) <|
  zA_c (zOk_fl zn_binl (zs_lmul (by decide +kernel))) <|
  zA_c (zOk_fl zn_aload (zs_aload_n (q := 0) rfl (by decide +kernel))) <|
  zA_c (zOk_fl zn_push (zs_iconst (n := (-1)) (by decide +kernel) rfl)) <|
  zA_c (zk_V zq_262 zw_1529 rfl (by decide +kernel)) <|
  zA_c (zOk_fl zn_i2l (zs_i2l (by decide +kernel))) <|
  zA_c (zOk_fl zn_binl (zs_ladd (by decide +kernel))) <|
  zA_c (zOk_fl zn_lstore (zs_lstore_n (q := 1) rfl (by decide +kernel))) <|
  zA_c (zOk_fl zn_pushl (zs_ldc2 (by decide +kernel) zw_1699 rfl)) <|
  zA_c (zOk_fl zn_lload (zs_lload_n (q := 1) rfl (by decide +kernel))) <|
  zA_c (zOk_fl zn_binl (zs_lmul (by decide +kernel))) <|
  zA_c (zOk_fl zn_aload (zs_aload_n (q := 0) rfl (by decide +kernel))) <|
  zA_c (zOk_fl zn_push (zs_iconst (n := 0) (by decide +kernel) rfl)) <|
  zA_c (zk_V zq_262 zw_1529 rfl (by decide +kernel)) <|
  zA_n
def zcl_303_5 : List (Nat × zmI) := [(160, zm_i2l 161), (161, zm_binl 162 (fun x y => w64 (x + y))), (162, zm_lstore 163 1), (163, zm_pushl 166 31), (166, zm_lload 167 1), (167, zm_binl 168 (fun x y => w64 (x * y))), (168, zm_aload 169 0), (169, zm_push 170 (-1)), (170, zm_call 173 264 2 true 12), (173, zm_i2l 174), (174, zm_binl 175 (fun x y => w64 (x + y))), (175, zm_lstore 176 1), (176, zm_pushl 179 31), (179, zm_lload 180 1), (180, zm_binl 181 (fun x y => w64 (x * y))), (181, zm_aload 182 0), (182, zm_push 183 2), (183, zm_call 186 268 2 true 12), (186, zm_i2l 187), (187, zm_binl 188 (fun x y => w64 (x + y))), (188, zm_lstore 189 1), (189, zm_pushl 192 31)]
theorem zmc_303_5 (l : Launch) : zAll l "ChessWireModel" prog_14_method_112_code 6 false (some .long) zcl_303_5 :=
  zA_c (zOk_fl zn_i2l (zs_i2l (by decide +kernel))) <|
  zA_c (zOk_fl zn_binl (zs_ladd (by decide +kernel))) <|
  zA_c (zOk_fl zn_lstore (zs_lstore_n (q := 1) rfl (by decide +kernel))) <|
  zA_c (zOk_fl zn_pushl (zs_ldc2 (by decide +kernel) zw_1699 rfl)) <|
  zA_c (zOk_fl zn_lload (zs_lload_n (q := 1) rfl (by decide +kernel))) <|
  zA_c (zOk_fl zn_binl (zs_lmul (by decide +kernel))) <|
  zA_c (zOk_fl zn_aload (zs_aload_n (q := 0) rfl (by decide +kernel))) <|
  zA_c (zOk_fl zn_push (zs_iconst (n := (-1)) (by decide +kernel) rfl)) <|
  zA_c (zk_V zq_264 zw_1537 rfl (by decide +kernel)) <|
  zA_c (zOk_fl zn_i2l (zs_i2l (by decide +kernel))) <|
  zA_c (zOk_fl zn_binl (zs_ladd (by decide +kernel))) <|
  zA_c (zOk_fl zn_lstore (zs_lstore_n (q := 1) rfl (by decide +kernel))) <|
  zA_c (zOk_fl zn_pushl (zs_ldc2 (by decide +kernel) zw_1699 rfl)) <|
  zA_c (zOk_fl zn_lload (zs_lload_n (q := 1) rfl (by decide +kernel))) <|
  zA_c (zOk_fl zn_binl (zs_lmul (by decide +kernel))) <|
  zA_c (zOk_fl zn_aload (zs_aload_n (q := 0) rfl (by decide +kernel))) <|
  zA_c (zOk_fl zn_push (zs_iconst (n := 2) (by decide +kernel) rfl)) <|
  zA_c (zk_V zq_268 zw_1556 rfl (by decide +kernel)) <|
  zA_c (zOk_fl zn_i2l (zs_i2l (by decide +kernel))) <|
  zA_c (zOk_fl zn_binl (zs_ladd (by decide +kernel))) <|
  zA_c (zOk_fl zn_lstore (zs_lstore_n (q := 1) rfl (by decide +kernel))) <|
  zA_c (zOk_fl zn_pushl (zs_ldc2 (by decide +kernel) zw_1699 rfl)) <|
  zA_n
def zcl_303_6 : List (Nat × zmI) := [(192, zm_lload 193 1), (193, zm_binl 194 (fun x y => w64 (x * y))), (194, zm_aload 195 0), (195, zm_push 197 26), (197, zm_call 200 268 2 true 12), (200, zm_i2l 201), (201, zm_binl 202 (fun x y => w64 (x + y))), (202, zm_lstore 203 1), (203, zm_aload 204 0), (204, zm_push 205 0), (205, zm_call 208 231 2 true 12), (208, zm_istore 209 3), (209, zm_iload 210 3), (210, zm_push 211 (-1)), (211, zm_iceq 214 281), (214, zm_aload 215 0), (215, zm_iload 216 3), (216, zm_push 217 (-1)), (217, zm_call 220 252 3 true 12), (220, zm_istore 222 4), (222, zm_pushl 225 31)]
theorem zmc_303_6 (l : Launch) : zAll l "ChessWireModel" prog_14_method_112_code 6 false (some .long) zcl_303_6 :=
  zA_c (zOk_fl zn_lload (zs_lload_n (q := 1) rfl (by decide +kernel))) <|
  zA_c (zOk_fl zn_binl (zs_lmul (by decide +kernel))) <|
  zA_c (zOk_fl zn_aload (zs_aload_n (q := 0) rfl (by decide +kernel))) <|
  zA_c (zOk_fl zn_push (zs_bipush (n := 26) (by decide +kernel) rfl)) <|
  zA_c (zk_V zq_268 zw_1556 rfl (by decide +kernel)) <|
  zA_c (zOk_fl zn_i2l (zs_i2l (by decide +kernel))) <|
  zA_c (zOk_fl zn_binl (zs_ladd (by decide +kernel))) <|
  zA_c (zOk_fl zn_lstore (zs_lstore_n (q := 1) rfl (by decide +kernel))) <|
  zA_c (zOk_fl zn_aload (zs_aload_n (q := 0) rfl (by decide +kernel))) <|
  zA_c (zOk_fl zn_push (zs_iconst (n := 0) (by decide +kernel) rfl)) <|
  zA_c (zk_V zq_231 zw_1407 rfl (by decide +kernel)) <|
  zA_c (zOk_fl zn_istore (zs_istore_n (q := 3) rfl (by decide +kernel))) <|
  zA_c (zOk_fl zn_iload (zs_iload_n (q := 3) rfl (by decide +kernel))) <|
  zA_c (zOk_fl zn_push (zs_iconst (n := (-1)) (by decide +kernel) rfl)) <|
  zA_c (zOk_fl zn_iceq (zs_iceq (off := 70) (by decide +kernel) (by decide))) <|
  zA_c (zOk_fl zn_aload (zs_aload_n (q := 0) rfl (by decide +kernel))) <|
  zA_c (zOk_fl zn_iload (zs_iload_n (q := 3) rfl (by decide +kernel))) <|
  zA_c (zOk_fl zn_push (zs_iconst (n := (-1)) (by decide +kernel) rfl)) <|
  zA_c (zk_V zq_252 zw_1489 rfl (by decide +kernel)) <|
  zA_c (zOk_fl zn_istore (zs_istore (by decide +kernel))) <|
  zA_c (zOk_fl zn_pushl (zs_ldc2 (by decide +kernel) zw_1699 rfl)) <|
  zA_n
def zcl_303_7 : List (Nat × zmI) := [(225, zm_lload 226 1), (226, zm_binl 227 (fun x y => w64 (x * y))), (227, zm_iload 229 4), (229, zm_i2l 230), (230, zm_binl 231 (fun x y => w64 (x + y))), (231, zm_lstore 232 1), (232, zm_push 233 0), (233, zm_istore 235 5), (235, zm_iload 237 5), (237, zm_iload 239 4), (239, zm_icge 242 263), (242, zm_pushl 245 31), (245, zm_lload 246 1), (246, zm_binl 247 (fun x y => w64 (x * y))), (247, zm_aload 248 0), (248, zm_getR 251 12 18), (251, zm_iload 253 5), (253, zm_ald 254 100), (254, zm_i2l 255), (255, zm_binl 256 (fun x y => w64 (x + y)))]
theorem zmc_303_7 (l : Launch) : zAll l "ChessWireModel" prog_14_method_112_code 6 false (some .long) zcl_303_7 :=
  zA_c (zOk_fl zn_lload (zs_lload_n (q := 1) rfl (by decide +kernel))) <|
  zA_c (zOk_fl zn_binl (zs_lmul (by decide +kernel))) <|
  zA_c (zOk_fl zn_iload (zs_iload (by decide +kernel))) <|
  zA_c (zOk_fl zn_i2l (zs_i2l (by decide +kernel))) <|
  zA_c (zOk_fl zn_binl (zs_ladd (by decide +kernel))) <|
  zA_c (zOk_fl zn_lstore (zs_lstore_n (q := 1) rfl (by decide +kernel))) <|
  zA_c (zOk_fl zn_push (zs_iconst (n := 0) (by decide +kernel) rfl)) <|
  zA_c (zOk_fl zn_istore (zs_istore (by decide +kernel))) <|
  zA_c (zOk_fl zn_iload (zs_iload (by decide +kernel))) <|
  zA_c (zOk_fl zn_iload (zs_iload (by decide +kernel))) <|
  zA_c (zOk_fl zn_icge (zs_icge (off := 24) (by decide +kernel) (by decide))) <|
  zA_c (zOk_fl zn_pushl (zs_ldc2 (by decide +kernel) zw_1699 rfl)) <|
  zA_c (zOk_fl zn_lload (zs_lload_n (q := 1) rfl (by decide +kernel))) <|
  zA_c (zOk_fl zn_binl (zs_lmul (by decide +kernel))) <|
  zA_c (zOk_fl zn_aload (zs_aload_n (q := 0) rfl (by decide +kernel))) <|
  zA_c (zOk_fl zn_getR (zs_getR (k := 18) rfl (by decide) (by decide +kernel) rfl (by decide +kernel) zw_1197)) <|
  zA_c (zOk_fl zn_iload (zs_iload (by decide +kernel))) <|
  zA_c (zOk_fl zn_ald (zs_iald (by decide +kernel))) <|
  zA_c (zOk_fl zn_i2l (zs_i2l (by decide +kernel))) <|
  zA_c (zOk_fl zn_binl (zs_ladd (by decide +kernel))) <|
  zA_n
def zcl_303_8 : List (Nat × zmI) := [(256, zm_lstore 257 1), (257, zm_iinc 260 5 1), (260, zm_goto 235), (263, zm_pushl 266 31), (266, zm_lload 267 1), (267, zm_binl 268 (fun x y => w64 (x * y))), (268, zm_aload 269 0), (269, zm_iload 270 3), (270, zm_push 272 9), (272, zm_push 274 50), (274, zm_push 275 (-1)), (275, zm_call 278 285 5 true 12), (278, zm_i2l 279), (279, zm_binl 280 (fun x y => w64 (x + y))), (280, zm_lstore 281 1), (281, zm_push 282 0), (282, zm_istore 284 4), (284, zm_iload 286 4), (286, zm_push 287 3), (287, zm_icge 290 310)]
theorem zmc_303_8 (l : Launch) : zAll l "ChessWireModel" prog_14_method_112_code 6 false (some .long) zcl_303_8 :=
  zA_c (zOk_fl zn_lstore (zs_lstore_n (q := 1) rfl (by decide +kernel))) <|
  zA_c (zOk_fl zn_iinc (zs_iinc rfl (by decide +kernel))) <|
  zA_c (zOk_fl zn_goto (zs_goto (off := (-25)) (by decide +kernel) (by decide))) <|
  zA_c (zOk_fl zn_pushl (zs_ldc2 (by decide +kernel) zw_1699 rfl)) <|
  zA_c (zOk_fl zn_lload (zs_lload_n (q := 1) rfl (by decide +kernel))) <|
  zA_c (zOk_fl zn_binl (zs_lmul (by decide +kernel))) <|
  zA_c (zOk_fl zn_aload (zs_aload_n (q := 0) rfl (by decide +kernel))) <|
  zA_c (zOk_fl zn_iload (zs_iload_n (q := 3) rfl (by decide +kernel))) <|
  zA_c (zOk_fl zn_push (zs_bipush (n := 9) (by decide +kernel) rfl)) <|
  zA_c (zOk_fl zn_push (zs_bipush (n := 50) (by decide +kernel) rfl)) <|
  zA_c (zOk_fl zn_push (zs_iconst (n := (-1)) (by decide +kernel) rfl)) <|
  zA_c (zk_V zq_285 zw_1622 rfl (by decide +kernel)) <|
  zA_c (zOk_fl zn_i2l (zs_i2l (by decide +kernel))) <|
  zA_c (zOk_fl zn_binl (zs_ladd (by decide +kernel))) <|
  zA_c (zOk_fl zn_lstore (zs_lstore_n (q := 1) rfl (by decide +kernel))) <|
  zA_c (zOk_fl zn_push (zs_iconst (n := 0) (by decide +kernel) rfl)) <|
  zA_c (zOk_fl zn_istore (zs_istore (by decide +kernel))) <|
  zA_c (zOk_fl zn_iload (zs_iload (by decide +kernel))) <|
  zA_c (zOk_fl zn_push (zs_iconst (n := 3) (by decide +kernel) rfl)) <|
  zA_c (zOk_fl zn_icge (zs_icge (off := 23) (by decide +kernel) (by decide))) <|
  zA_n
def zcl_303_9 : List (Nat × zmI) := [(290, zm_pushl 293 31), (293, zm_lload 294 1), (294, zm_binl 295 (fun x y => w64 (x * y))), (295, zm_aload 296 0), (296, zm_iload 298 4), (298, zm_call 301 287 2 true 12), (301, zm_i2l 302), (302, zm_binl 303 (fun x y => w64 (x + y))), (303, zm_lstore 304 1), (304, zm_iinc 307 4 1), (307, zm_goto 284), (310, zm_pushl 313 31), (313, zm_lload 314 1), (314, zm_binl 315 (fun x y => w64 (x * y))), (315, zm_aload 316 0), (316, zm_push 318 9), (318, zm_call 321 292 2 true 12)]
theorem zmc_303_9 (l : Launch) : zAll l "ChessWireModel" prog_14_method_112_code 6 false (some .long) zcl_303_9 :=
  zA_c (zOk_fl zn_pushl (zs_ldc2 (by decide +kernel) zw_1699 rfl)) <|
  zA_c (zOk_fl zn_lload (zs_lload_n (q := 1) rfl (by decide +kernel))) <|
  zA_c (zOk_fl zn_binl (zs_lmul (by decide +kernel))) <|
  zA_c (zOk_fl zn_aload (zs_aload_n (q := 0) rfl (by decide +kernel))) <|
  zA_c (zOk_fl zn_iload (zs_iload (by decide +kernel))) <|
  zA_c (zk_V zq_287 zw_1630 rfl (by decide +kernel)) <|
  zA_c (zOk_fl zn_i2l (zs_i2l (by decide +kernel))) <|
  zA_c (zOk_fl zn_binl (zs_ladd (by decide +kernel))) <|
  zA_c (zOk_fl zn_lstore (zs_lstore_n (q := 1) rfl (by decide +kernel))) <|
  zA_c (zOk_fl zn_iinc (zs_iinc rfl (by decide +kernel))) <|
  zA_c (zOk_fl zn_goto (zs_goto (off := (-23)) (by decide +kernel) (by decide))) <|
  zA_c (zOk_fl zn_pushl (zs_ldc2 (by decide +kernel) zw_1699 rfl)) <|
  zA_c (zOk_fl zn_lload (zs_lload_n (q := 1) rfl (by decide +kernel))) <|
  zA_c (zOk_fl zn_binl (zs_lmul (by decide +kernel))) <|
  zA_c (zOk_fl zn_aload (zs_aload_n (q := 0) rfl (by decide +kernel))) <|
  zA_c (zOk_fl zn_push (zs_bipush (n := 9) (by decide +kernel) rfl)) <|
  zA_c (zk_V zq_292 zw_1650 rfl (by decide +kernel)) <|
  zA_n
def zcl_303_10 : List (Nat × zmI) := [(321, zm_i2l 322), (322, zm_binl 323 (fun x y => w64 (x + y))), (323, zm_lret)]
theorem zmc_303_10 (l : Launch) : zAll l "ChessWireModel" prog_14_method_112_code 6 false (some .long) zcl_303_10 :=
  zA_c (zOk_fl zn_i2l (zs_i2l (by decide +kernel))) <|
  zA_c (zOk_fl zn_binl (zs_ladd (by decide +kernel))) <|
  zA_c (zs_lret (by decide +kernel) rfl) <|
  zA_n
def zc_303 : Nat → zmI := zgetC [zcl_303_0, zcl_303_1, zcl_303_2, zcl_303_3, zcl_303_4, zcl_303_5, zcl_303_6, zcl_303_7, zcl_303_8, zcl_303_9, zcl_303_10]
theorem zmf_303 (l : Launch) : zMf l zc_303 303 := ⟨by decide +kernel, false, (fun h => by cases h), fun pc => zgetC_ok (zA2_c (zmc_303_0 l) (zA2_c (zmc_303_1 l) (zA2_c (zmc_303_2 l) (zA2_c (zmc_303_3 l) (zA2_c (zmc_303_4 l) (zA2_c (zmc_303_5 l) (zA2_c (zmc_303_6 l) (zA2_c (zmc_303_7 l) (zA2_c (zmc_303_8 l) (zA2_c (zmc_303_9 l) (zA2_c (zmc_303_10 l) (zA2_n)))))))))))) pc⟩
