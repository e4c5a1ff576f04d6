/-! code, and why it is sound -/
def zcl_238_0 : List (Nat × zmI) := [(0, zm_iload 1 0), (1, zm_ifge 4 9), (4, zm_iload 5 0), (5, zm_un 6 (fun x => w32 (-x))), (6, zm_goto 10), (9, zm_iload 10 0), (10, zm_iret)]
theorem zmc_238_0 (l : Launch) : zAll l "ChessWireModel" prog_14_method_6_code 1 false (some .int) zcl_238_0 :=
  zA_c (zOk_fl zn_iload (zs_iload_n (q := 0) rfl (by decide +kernel))) <|
  zA_c (zOk_fl zn_ifge (zs_ifge (off := 8) (by decide +kernel) (by decide))) <|
  zA_c (zOk_fl zn_iload (zs_iload_n (q := 0) rfl (by decide +kernel))) <|
  zA_c (zOk_fl zn_un (zs_ineg (by decide +kernel))) <|
  zA_c (zOk_fl zn_goto (zs_goto (off := 4) (by decide +kernel) (by decide))) <|
  zA_c (zOk_fl zn_iload (zs_iload_n (q := 0) rfl (by decide +kernel))) <|
  zA_c (zs_iret (by decide +kernel) rfl) <|
  zA_n
def zc_238 : Nat → zmI := zgetC [zcl_238_0]
theorem zmf_238 (l : Launch) : zMf l zc_238 238 := ⟨by decide +kernel, false, (fun h => by cases h), fun pc => zgetC_ok (zA2_c (zmc_238_0 l) (zA2_n)) pc⟩
def zcl_239_0 : List (Nat × zmI) := [(0, zm_push 2 8), (2, zm_iload 3 3), (3, zm_push 5 8), (5, zm_quo 6 z_div), (6, zm_iload 7 2), (7, zm_push 9 8), (9, zm_quo 10 z_div), (10, zm_bin 11 (fun x y => w32 (x - y))), (11, zm_call 14 240 1 true 99), (14, zm_bin 15 (fun x y => w32 (x * y))), (15, zm_iload 16 3), (16, zm_push 18 8), (18, zm_quo 19 z_rem), (19, zm_iload 20 2), (20, zm_push 22 8), (22, zm_quo 23 z_rem), (23, zm_bin 24 (fun x y => w32 (x - y))), (24, zm_call 27 240 1 true 99), (27, zm_bin 28 (fun x y => w32 (x + y))), (28, zm_istore 30 4), (30, zm_iload 31 2), (31, zm_iload 33 4)]
theorem zmc_239_0 (l : Launch) : zAll l "ChessWireModel" prog_14_method_36_code 6 false (some .boolean) zcl_239_0 :=
  zA_c (zOk_fl zn_push (zs_bipush (n := 8) (by decide +kernel) rfl)) <|
  zA_c (zOk_fl zn_iload (zs_iload_n (q := 3) rfl (by decide +kernel))) <|
  zA_c (zOk_fl zn_push (zs_bipush (n := 8) (by decide +kernel) rfl)) <|
  zA_c (zOk_fl zn_quo (zs_idiv (by decide +kernel))) <|
  zA_c (zOk_fl zn_iload (zs_iload_n (q := 2) rfl (by decide +kernel))) <|
  zA_c (zOk_fl zn_push (zs_bipush (n := 8) (by decide +kernel) rfl)) <|
  zA_c (zOk_fl zn_quo (zs_idiv (by decide +kernel))) <|
  zA_c (zOk_fl zn_bin (zs_isub (by decide +kernel))) <|
  zA_c (zk_S zq_240 zw_1441 (by decide +kernel)) <|
  zA_c (zOk_fl zn_bin (zs_imul (by decide +kernel))) <|
  zA_c (zOk_fl zn_iload (zs_iload_n (q := 3) rfl (by decide +kernel))) <|
  zA_c (zOk_fl zn_push (zs_bipush (n := 8) (by decide +kernel) rfl)) <|
  zA_c (zOk_fl zn_quo (zs_irem (by decide +kernel))) <|
  zA_c (zOk_fl zn_iload (zs_iload_n (q := 2) rfl (by decide +kernel))) <|
  zA_c (zOk_fl zn_push (zs_bipush (n := 8) (by decide +kernel) rfl)) <|
  zA_c (zOk_fl zn_quo (zs_irem (by decide +kernel))) <|
  zA_c (zOk_fl zn_bin (zs_isub (by decide +kernel))) <|
  zA_c (zk_S zq_240 zw_1441 (by decide +kernel)) <|
  zA_c (zOk_fl zn_bin (zs_iadd (by decide +kernel))) <|
  zA_c (zOk_fl zn_istore (zs_istore (by decide +kernel))) <|
  zA_c (zOk_fl zn_iload (zs_iload_n (q := 2) rfl (by decide +kernel))) <|
  zA_c (zOk_fl zn_iload (zs_iload (by decide +kernel))) <|
  zA_n
def zcl_239_1 : List (Nat × zmI) := [(33, zm_bin 34 (fun x y => w32 (x + y))), (34, zm_istore 36 5), (36, zm_iload 38 5), (38, zm_iload 39 3), (39, zm_iceq 42 69), (42, zm_aload 43 0), (43, zm_getR 46 12 8), (46, zm_push 48 64), (48, zm_iload 49 1), (49, zm_bin 50 (fun x y => w32 (x * y))), (50, zm_iload 52 5), (52, zm_bin 53 (fun x y => w32 (x + y))), (53, zm_ald 54 100), (54, zm_ifeq 57 59), (57, zm_push 58 0), (58, zm_zret), (59, zm_iload 61 5), (61, zm_iload 63 4), (63, zm_bin 64 (fun x y => w32 (x + y)))]
theorem zmc_239_1 (l : Launch) : zAll l "ChessWireModel" prog_14_method_36_code 6 false (some .boolean) zcl_239_1 :=
  zA_c (zOk_fl zn_bin (zs_iadd (by decide +kernel))) <|
  zA_c (zOk_fl zn_istore (zs_istore (by decide +kernel))) <|
  zA_c (zOk_fl zn_iload (zs_iload (by decide +kernel))) <|
  zA_c (zOk_fl zn_iload (zs_iload_n (q := 3) rfl (by decide +kernel))) <|
  zA_c (zOk_fl zn_iceq (zs_iceq (off := 30) (by decide +kernel) (by decide))) <|
  zA_c (zOk_fl zn_aload (zs_aload_n (q := 0) rfl (by decide +kernel))) <|
  zA_c (zOk_fl zn_getR (zs_getR (k := 8) rfl (by decide) (by decide +kernel) rfl (by decide +kernel) zw_1187)) <|
  zA_c (zOk_fl zn_push (zs_bipush (n := 64) (by decide +kernel) rfl)) <|
  zA_c (zOk_fl zn_iload (zs_iload_n (q := 1) rfl (by decide +kernel))) <|
  zA_c (zOk_fl zn_bin (zs_imul (by decide +kernel))) <|
  zA_c (zOk_fl zn_iload (zs_iload (by decide +kernel))) <|
  zA_c (zOk_fl zn_bin (zs_iadd (by decide +kernel))) <|
  zA_c (zOk_fl zn_ald (zs_iald (by decide +kernel))) <|
  zA_c (zOk_fl zn_ifeq (zs_ifeq (off := 5) (by decide +kernel) (by decide))) <|
  zA_c (zOk_fl zn_push (zs_iconst (n := 0) (by decide +kernel) rfl)) <|
  zA_c (zs_zret (by decide +kernel) rfl) <|
  zA_c (zOk_fl zn_iload (zs_iload (by decide +kernel))) <|
  zA_c (zOk_fl zn_iload (zs_iload (by decide +kernel))) <|
  zA_c (zOk_fl zn_bin (zs_iadd (by decide +kernel))) <|
  zA_n
def zcl_239_2 : List (Nat × zmI) := [(64, zm_istore 66 5), (66, zm_goto 36), (69, zm_push 70 1), (70, zm_zret)]
theorem zmc_239_2 (l : Launch) : zAll l "ChessWireModel" prog_14_method_36_code 6 false (some .boolean) zcl_239_2 :=
  zA_c (zOk_fl zn_istore (zs_istore (by decide +kernel))) <|
  zA_c (zOk_fl zn_goto (zs_goto (off := (-30)) (by decide +kernel) (by decide))) <|
  zA_c (zOk_fl zn_push (zs_iconst (n := 1) (by decide +kernel) rfl)) <|
  zA_c (zs_zret (by decide +kernel) rfl) <|
  zA_n
def zc_239 : Nat → zmI := zgetC [zcl_239_0, zcl_239_1, zcl_239_2]
theorem zmf_239 (l : Launch) : zMf l zc_239 239 := ⟨by decide +kernel, false, (fun h => by cases h), fun pc => zgetC_ok (zA2_c (zmc_239_0 l) (zA2_c (zmc_239_1 l) (zA2_c (zmc_239_2 l) (zA2_n)))) pc⟩
def zcl_240_0 : List (Nat × zmI) := [(0, zm_iload 1 0), (1, zm_ifle 4 8), (4, zm_push 5 1), (5, zm_goto 17), (8, zm_iload 9 0), (9, zm_ifge 12 16), (12, zm_push 13 (-1)), (13, zm_goto 17), (16, zm_push 17 0), (17, zm_iret)]
theorem zmc_240_0 (l : Launch) : zAll l "ChessWireModel" prog_14_method_35_code 1 false (some .int) zcl_240_0 :=
  zA_c (zOk_fl zn_iload (zs_iload_n (q := 0) rfl (by decide +kernel))) <|
  zA_c (zOk_fl zn_ifle (zs_ifle (off := 7) (by decide +kernel) (by decide))) <|
  zA_c (zOk_fl zn_push (zs_iconst (n := 1) (by decide +kernel) rfl)) <|
  zA_c (zOk_fl zn_goto (zs_goto (off := 12) (by decide +kernel) (by decide))) <|
  zA_c (zOk_fl zn_iload (zs_iload_n (q := 0) rfl (by decide +kernel))) <|
  zA_c (zOk_fl zn_ifge (zs_ifge (off := 7) (by decide +kernel) (by decide))) <|
  zA_c (zOk_fl zn_push (zs_iconst (n := (-1)) (by decide +kernel) rfl)) <|
  zA_c (zOk_fl zn_goto (zs_goto (off := 4) (by decide +kernel) (by decide))) <|
  zA_c (zOk_fl zn_push (zs_iconst (n := 0) (by decide +kernel) rfl)) <|
  zA_c (zs_iret (by decide +kernel) rfl) <|
  zA_n
def zc_240 : Nat → zmI := zgetC [zcl_240_0]
theorem zmf_240 (l : Launch) : zMf l zc_240 240 := ⟨by decide +kernel, false, (fun h => by cases h), fun pc => zgetC_ok (zA2_c (zmc_240_0 l) (zA2_n)) pc⟩
def zcl_241_0 : List (Nat × zmI) := [(0, zm_aload 1 0), (1, zm_getR 4 12 8), (4, zm_push 6 64), (6, zm_iload 7 1), (7, zm_bin 8 (fun x y => w32 (x * y))), (8, zm_iload 9 2), (9, zm_bin 10 (fun x y => w32 (x + y))), (10, zm_ald 11 100), (11, zm_istore 13 4), (13, zm_iload 15 4), (15, zm_push 16 1), (16, zm_icne 19 28), (19, zm_iload 20 3), (20, zm_push 22 8), (22, zm_quo 23 z_div), (23, zm_push 25 7), (25, zm_iceq 28 42), (28, zm_iload 30 4), (30, zm_push 32 9)]
theorem zmc_241_0 (l : Launch) : zAll l "ChessWireModel" prog_14_method_42_code 6 false (none) zcl_241_0 :=
  zA_c (zOk_fl zn_aload (zs_aload_n (q := 0) rfl (by decide +kernel))) <|
  zA_c (zOk_fl zn_getR (zs_getR (k := 8) rfl (by decide) (by decide +kernel) rfl (by decide +kernel) zw_1187)) <|
  zA_c (zOk_fl zn_push (zs_bipush (n := 64) (by decide +kernel) rfl)) <|
  zA_c (zOk_fl zn_iload (zs_iload_n (q := 1) rfl (by decide +kernel))) <|
  zA_c (zOk_fl zn_bin (zs_imul (by decide +kernel))) <|
  zA_c (zOk_fl zn_iload (zs_iload_n (q := 2) rfl (by decide +kernel))) <|
  zA_c (zOk_fl zn_bin (zs_iadd (by decide +kernel))) <|
  zA_c (zOk_fl zn_ald (zs_iald (by decide +kernel))) <|
  zA_c (zOk_fl zn_istore (zs_istore (by decide +kernel))) <|
  zA_c (zOk_fl zn_iload (zs_iload (by decide +kernel))) <|
  zA_c (zOk_fl zn_push (zs_iconst (n := 1) (by decide +kernel) rfl)) <|
  zA_c (zOk_fl zn_icne (zs_icne (off := 12) (by decide +kernel) (by decide))) <|
  zA_c (zOk_fl zn_iload (zs_iload_n (q := 3) rfl (by decide +kernel))) <|
  zA_c (zOk_fl zn_push (zs_bipush (n := 8) (by decide +kernel) rfl)) <|
  zA_c (zOk_fl zn_quo (zs_idiv (by decide +kernel))) <|
  zA_c (zOk_fl zn_push (zs_bipush (n := 7) (by decide +kernel) rfl)) <|
  zA_c (zOk_fl zn_iceq (zs_iceq (off := 17) (by decide +kernel) (by decide))) <|
  zA_c (zOk_fl zn_iload (zs_iload (by decide +kernel))) <|
  zA_c (zOk_fl zn_push (zs_bipush (n := 9) (by decide +kernel) rfl)) <|
  zA_n
def zcl_241_1 : List (Nat × zmI) := [(32, zm_icne 35 46), (35, zm_iload 36 3), (36, zm_push 38 8), (38, zm_quo 39 z_div), (39, zm_ifne 42 46), (42, zm_push 43 1), (43, zm_goto 47), (46, zm_push 47 0), (47, zm_istore 49 5), (49, zm_aload 50 0), (50, zm_getR 53 12 8), (53, zm_push 55 64), (55, zm_iload 56 1), (56, zm_bin 57 (fun x y => w32 (x * y))), (57, zm_iload 58 3), (58, zm_bin 59 (fun x y => w32 (x + y))), (59, zm_iload 61 5), (61, zm_ifeq 64 71)]
theorem zmc_241_1 (l : Launch) : zAll l "ChessWireModel" prog_14_method_42_code 6 false (none) zcl_241_1 :=
  zA_c (zOk_fl zn_icne (zs_icne (off := 14) (by decide +kernel) (by decide))) <|
  zA_c (zOk_fl zn_iload (zs_iload_n (q := 3) rfl (by decide +kernel))) <|
  zA_c (zOk_fl zn_push (zs_bipush (n := 8) (by decide +kernel) rfl)) <|
  zA_c (zOk_fl zn_quo (zs_idiv (by decide +kernel))) <|
  zA_c (zOk_fl zn_ifne (zs_ifne (off := 7) (by decide +kernel) (by decide))) <|
  zA_c (zOk_fl zn_push (zs_iconst (n := 1) (by decide +kernel) rfl)) <|
  zA_c (zOk_fl zn_goto (zs_goto (off := 4) (by decide +kernel) (by decide))) <|
  zA_c (zOk_fl zn_push (zs_iconst (n := 0) (by decide +kernel) rfl)) <|
  zA_c (zOk_fl zn_istore (zs_istore (by decide +kernel))) <|
  zA_c (zOk_fl zn_aload (zs_aload_n (q := 0) rfl (by decide +kernel))) <|
  zA_c (zOk_fl zn_getR (zs_getR (k := 8) rfl (by decide) (by decide +kernel) rfl (by decide +kernel) zw_1187)) <|
  zA_c (zOk_fl zn_push (zs_bipush (n := 64) (by decide +kernel) rfl)) <|
  zA_c (zOk_fl zn_iload (zs_iload_n (q := 1) rfl (by decide +kernel))) <|
  zA_c (zOk_fl zn_bin (zs_imul (by decide +kernel))) <|
  zA_c (zOk_fl zn_iload (zs_iload_n (q := 3) rfl (by decide +kernel))) <|
  zA_c (zOk_fl zn_bin (zs_iadd (by decide +kernel))) <|
  zA_c (zOk_fl zn_iload (zs_iload (by decide +kernel))) <|
  zA_c (zOk_fl zn_ifeq (zs_ifeq (off := 10) (by decide +kernel) (by decide))) <|
  zA_n
def zcl_241_2 : List (Nat × zmI) := [(64, zm_iload 66 4), (66, zm_push 67 4), (67, zm_bin 68 (fun x y => w32 (x + y))), (68, zm_goto 73), (71, zm_iload 73 4), (73, zm_iast 74), (74, zm_aload 75 0), (75, zm_getR 78 12 8), (78, zm_push 80 64), (80, zm_iload 81 1), (81, zm_bin 82 (fun x y => w32 (x * y))), (82, zm_iload 83 2), (83, zm_bin 84 (fun x y => w32 (x + y))), (84, zm_push 85 0), (85, zm_iast 86), (86, zm_vret)]
theorem zmc_241_2 (l : Launch) : zAll l "ChessWireModel" prog_14_method_42_code 6 false (none) zcl_241_2 :=
  zA_c (zOk_fl zn_iload (zs_iload (by decide +kernel))) <|
  zA_c (zOk_fl zn_push (zs_iconst (n := 4) (by decide +kernel) rfl)) <|
  zA_c (zOk_fl zn_bin (zs_iadd (by decide +kernel))) <|
  zA_c (zOk_fl zn_goto (zs_goto (off := 5) (by decide +kernel) (by decide))) <|
  zA_c (zOk_fl zn_iload (zs_iload (by decide +kernel))) <|
  zA_c (zOk_sn zn_iast (zs_iast (by decide +kernel))) <|
  zA_c (zOk_fl zn_aload (zs_aload_n (q := 0) rfl (by decide +kernel))) <|
  zA_c (zOk_fl zn_getR (zs_getR (k := 8) rfl (by decide) (by decide +kernel) rfl (by decide +kernel) zw_1187)) <|
  zA_c (zOk_fl zn_push (zs_bipush (n := 64) (by decide +kernel) rfl)) <|
  zA_c (zOk_fl zn_iload (zs_iload_n (q := 1) rfl (by decide +kernel))) <|
  zA_c (zOk_fl zn_bin (zs_imul (by decide +kernel))) <|
  zA_c (zOk_fl zn_iload (zs_iload_n (q := 2) rfl (by decide +kernel))) <|
  zA_c (zOk_fl zn_bin (zs_iadd (by decide +kernel))) <|
  zA_c (zOk_fl zn_push (zs_iconst (n := 0) (by decide +kernel) rfl)) <|
  zA_c (zOk_sn zn_iast (zs_iast (by decide +kernel))) <|
  zA_c (zs_vret (by decide +kernel) rfl) <|
  zA_n
def zc_241 : Nat → zmI := zgetC [zcl_241_0, zcl_241_1, zcl_241_2]
theorem zmf_241 (l : Launch) : zMf l zc_241 241 := ⟨by decide +kernel, false, (fun h => by cases h), fun pc => zgetC_ok (zA2_c (zmc_241_0 l) (zA2_c (zmc_241_1 l) (zA2_c (zmc_241_2 l) (zA2_n)))) pc⟩
def zcl_242_0 : List (Nat × zmI) := [(0, zm_push 1 (-1)), (1, zm_istore 2 3), (2, zm_push 3 0), (3, zm_istore 5 4), (5, zm_iload 7 4), (7, zm_push 9 64), (9, zm_icge 12 44), (12, zm_aload 13 0), (13, zm_getR 16 12 8), (16, zm_push 18 64), (18, zm_iload 19 1), (19, zm_bin 20 (fun x y => w32 (x * y))), (20, zm_iload 22 4), (22, zm_bin 23 (fun x y => w32 (x + y))), (23, zm_ald 24 100), (24, zm_iload 25 2), (25, zm_push 27 6), (27, zm_bin 28 (fun x y => w32 (x + y))), (28, zm_icne 31 36), (31, zm_iload 33 4)]
theorem zmc_242_0 (l : Launch) : zAll l "ChessWireModel" prog_14_method_41_code 5 false (some .boolean) zcl_242_0 :=
  zA_c (zOk_fl zn_push (zs_iconst (n := (-1)) (by decide +kernel) rfl)) <|
  zA_c (zOk_fl zn_istore (zs_istore_n (q := 3) rfl (by decide +kernel))) <|
  zA_c (zOk_fl zn_push (zs_iconst (n := 0) (by decide +kernel) rfl)) <|
  zA_c (zOk_fl zn_istore (zs_istore (by decide +kernel))) <|
  zA_c (zOk_fl zn_iload (zs_iload (by decide +kernel))) <|
  zA_c (zOk_fl zn_push (zs_bipush (n := 64) (by decide +kernel) rfl)) <|
  zA_c (zOk_fl zn_icge (zs_icge (off := 35) (by decide +kernel) (by decide))) <|
  zA_c (zOk_fl zn_aload (zs_aload_n (q := 0) rfl (by decide +kernel))) <|
  zA_c (zOk_fl zn_getR (zs_getR (k := 8) rfl (by decide) (by decide +kernel) rfl (by decide +kernel) zw_1187)) <|
  zA_c (zOk_fl zn_push (zs_bipush (n := 64) (by decide +kernel) rfl)) <|
  zA_c (zOk_fl zn_iload (zs_iload_n (q := 1) rfl (by decide +kernel))) <|
  zA_c (zOk_fl zn_bin (zs_imul (by decide +kernel))) <|
  zA_c (zOk_fl zn_iload (zs_iload (by decide +kernel))) <|
  zA_c (zOk_fl zn_bin (zs_iadd (by decide +kernel))) <|
  zA_c (zOk_fl zn_ald (zs_iald (by decide +kernel))) <|
  zA_c (zOk_fl zn_iload (zs_iload_n (q := 2) rfl (by decide +kernel))) <|
  zA_c (zOk_fl zn_push (zs_bipush (n := 6) (by decide +kernel) rfl)) <|
  zA_c (zOk_fl zn_bin (zs_iadd (by decide +kernel))) <|
  zA_c (zOk_fl zn_icne (zs_icne (off := 8) (by decide +kernel) (by decide))) <|
  zA_c (zOk_fl zn_iload (zs_iload (by decide +kernel))) <|
  zA_n
def zcl_242_1 : List (Nat × zmI) := [(33, zm_goto 37), (36, zm_iload 37 3), (37, zm_istore 38 3), (38, zm_iinc 41 4 1), (41, zm_goto 5), (44, zm_iload 45 3), (45, zm_push 46 (-1)), (46, zm_icne 49 51), (49, zm_push 50 0), (50, zm_zret), (51, zm_push 52 0), (52, zm_istore 54 4), (54, zm_iload 56 4), (56, zm_push 58 64), (58, zm_icge 61 102), (61, zm_aload 62 0), (62, zm_getR 65 12 8)]
theorem zmc_242_1 (l : Launch) : zAll l "ChessWireModel" prog_14_method_41_code 5 false (some .boolean) zcl_242_1 :=
  zA_c (zOk_fl zn_goto (zs_goto (off := 4) (by decide +kernel) (by decide))) <|
  zA_c (zOk_fl zn_iload (zs_iload_n (q := 3) rfl (by decide +kernel))) <|
  zA_c (zOk_fl zn_istore (zs_istore_n (q := 3) rfl (by decide +kernel))) <|
  zA_c (zOk_fl zn_iinc (zs_iinc rfl (by decide +kernel))) <|
  zA_c (zOk_fl zn_goto (zs_goto (off := (-36)) (by decide +kernel) (by decide))) <|
  zA_c (zOk_fl zn_iload (zs_iload_n (q := 3) rfl (by decide +kernel))) <|
  zA_c (zOk_fl zn_push (zs_iconst (n := (-1)) (by decide +kernel) rfl)) <|
  zA_c (zOk_fl zn_icne (zs_icne (off := 5) (by decide +kernel) (by decide))) <|
  zA_c (zOk_fl zn_push (zs_iconst (n := 0) (by decide +kernel) rfl)) <|
  zA_c (zs_zret (by decide +kernel) rfl) <|
  zA_c (zOk_fl zn_push (zs_iconst (n := 0) (by decide +kernel) rfl)) <|
  zA_c (zOk_fl zn_istore (zs_istore (by decide +kernel))) <|
  zA_c (zOk_fl zn_iload (zs_iload (by decide +kernel))) <|
  zA_c (zOk_fl zn_push (zs_bipush (n := 64) (by decide +kernel) rfl)) <|
  zA_c (zOk_fl zn_icge (zs_icge (off := 44) (by decide +kernel) (by decide))) <|
  zA_c (zOk_fl zn_aload (zs_aload_n (q := 0) rfl (by decide +kernel))) <|
  zA_c (zOk_fl zn_getR (zs_getR (k := 8) rfl (by decide) (by decide +kernel) rfl (by decide +kernel) zw_1187)) <|
  zA_n
def zcl_242_2 : List (Nat × zmI) := [(65, zm_push 67 64), (67, zm_iload 68 1), (68, zm_bin 69 (fun x y => w32 (x * y))), (69, zm_iload 71 4), (71, zm_bin 72 (fun x y => w32 (x + y))), (72, zm_ald 73 100), (73, zm_call 76 233 1 true 99), (76, zm_push 78 8), (78, zm_iload 79 2), (79, zm_bin 80 (fun x y => w32 (x - y))), (80, zm_icne 83 96), (83, zm_aload 84 0), (84, zm_iload 85 1), (85, zm_iload 87 4), (87, zm_iload 88 3), (88, zm_call 91 237 4 true 12), (91, zm_ifeq 94 96), (94, zm_push 95 1), (95, zm_zret)]
theorem zmc_242_2 (l : Launch) : zAll l "ChessWireModel" prog_14_method_41_code 5 false (some .boolean) zcl_242_2 :=
  zA_c (zOk_fl zn_push (zs_bipush (n := 64) (by decide +kernel) rfl)) <|
  zA_c (zOk_fl zn_iload (zs_iload_n (q := 1) rfl (by decide +kernel))) <|
  zA_c (zOk_fl zn_bin (zs_imul (by decide +kernel))) <|
  zA_c (zOk_fl zn_iload (zs_iload (by decide +kernel))) <|
  zA_c (zOk_fl zn_bin (zs_iadd (by decide +kernel))) <|
  zA_c (zOk_fl zn_ald (zs_iald (by decide +kernel))) <|
  zA_c (zk_S zq_233 zw_1415 (by decide +kernel)) <|
  zA_c (zOk_fl zn_push (zs_bipush (n := 8) (by decide +kernel) rfl)) <|
  zA_c (zOk_fl zn_iload (zs_iload_n (q := 2) rfl (by decide +kernel))) <|
  zA_c (zOk_fl zn_bin (zs_isub (by decide +kernel))) <|
  zA_c (zOk_fl zn_icne (zs_icne (off := 16) (by decide +kernel) (by decide))) <|
  zA_c (zOk_fl zn_aload (zs_aload_n (q := 0) rfl (by decide +kernel))) <|
  zA_c (zOk_fl zn_iload (zs_iload_n (q := 1) rfl (by decide +kernel))) <|
  zA_c (zOk_fl zn_iload (zs_iload (by decide +kernel))) <|
  zA_c (zOk_fl zn_iload (zs_iload_n (q := 3) rfl (by decide +kernel))) <|
  zA_c (zk_V zq_237 zw_1430 rfl (by decide +kernel)) <|
  zA_c (zOk_fl zn_ifeq (zs_ifeq (off := 5) (by decide +kernel) (by decide))) <|
  zA_c (zOk_fl zn_push (zs_iconst (n := 1) (by decide +kernel) rfl)) <|
  zA_c (zs_zret (by decide +kernel) rfl) <|
  zA_n
def zcl_242_3 : List (Nat × zmI) := [(96, zm_iinc 99 4 1), (99, zm_goto 54), (102, zm_push 103 0), (103, zm_zret)]
theorem zmc_242_3 (l : Launch) : zAll l "ChessWireModel" prog_14_method_41_code 5 false (some .boolean) zcl_242_3 :=
  zA_c (zOk_fl zn_iinc (zs_iinc rfl (by decide +kernel))) <|
  zA_c (zOk_fl zn_goto (zs_goto (off := (-45)) (by decide +kernel) (by decide))) <|
  zA_c (zOk_fl zn_push (zs_iconst (n := 0) (by decide +kernel) rfl)) <|
  zA_c (zs_zret (by decide +kernel) rfl) <|
  zA_n
def zc_242 : Nat → zmI := zgetC [zcl_242_0, zcl_242_1, zcl_242_2, zcl_242_3]
theorem zmf_242 (l : Launch) : zMf l zc_242 242 := ⟨by decide +kernel, false, (fun h => by cases h), fun pc => zgetC_ok (zA2_c (zmc_242_0 l) (zA2_c (zmc_242_1 l) (zA2_c (zmc_242_2 l) (zA2_c (zmc_242_3 l) (zA2_n))))) pc⟩
def zcl_243_0 : List (Nat × zmI) := [(0, zm_iload 1 1), (1, zm_call 4 244 1 true 99), (4, zm_ifeq 7 31), (7, zm_aload 8 0), (8, zm_push 9 0), (9, zm_iload 10 1), (10, zm_push 12 64), (12, zm_quo 13 z_div), (13, zm_iload 14 1), (14, zm_push 16 64), (16, zm_quo 17 z_rem), (17, zm_call 20 234 4 true 12), (20, zm_ifeq 23 27), (23, zm_push 24 1), (24, zm_goto 33), (27, zm_push 28 0), (28, zm_goto 33), (31, zm_push 33 (-2))]
theorem zmc_243_0 (l : Launch) : zAll l "ChessWireModel" prog_14_method_51_code 2 false (some .int) zcl_243_0 :=
  zA_c (zOk_fl zn_iload (zs_iload_n (q := 1) rfl (by decide +kernel))) <|
  zA_c (zk_S zq_244 zw_1456 (by decide +kernel)) <|
  zA_c (zOk_fl zn_ifeq (zs_ifeq (off := 27) (by decide +kernel) (by decide))) <|
  zA_c (zOk_fl zn_aload (zs_aload_n (q := 0) rfl (by decide +kernel))) <|
  zA_c (zOk_fl zn_push (zs_iconst (n := 0) (by decide +kernel) rfl)) <|
  zA_c (zOk_fl zn_iload (zs_iload_n (q := 1) rfl (by decide +kernel))) <|
  zA_c (zOk_fl zn_push (zs_bipush (n := 64) (by decide +kernel) rfl)) <|
  zA_c (zOk_fl zn_quo (zs_idiv (by decide +kernel))) <|
  zA_c (zOk_fl zn_iload (zs_iload_n (q := 1) rfl (by decide +kernel))) <|
  zA_c (zOk_fl zn_push (zs_bipush (n := 64) (by decide +kernel) rfl)) <|
  zA_c (zOk_fl zn_quo (zs_irem (by decide +kernel))) <|
  zA_c (zk_V zq_234 zw_1418 rfl (by decide +kernel)) <|
  zA_c (zOk_fl zn_ifeq (zs_ifeq (off := 7) (by decide +kernel) (by decide))) <|
  zA_c (zOk_fl zn_push (zs_iconst (n := 1) (by decide +kernel) rfl)) <|
  zA_c (zOk_fl zn_goto (zs_goto (off := 9) (by decide +kernel) (by decide))) <|
  zA_c (zOk_fl zn_push (zs_iconst (n := 0) (by decide +kernel) rfl)) <|
  zA_c (zOk_fl zn_goto (zs_goto (off := 5) (by decide +kernel) (by decide))) <|
  zA_c (zOk_fl zn_push (zs_bipush (n := (-2)) (by decide +kernel) rfl)) <|
  zA_n
def zcl_243_1 : List (Nat × zmI) := [(33, zm_iret)]
theorem zmc_243_1 (l : Launch) : zAll l "ChessWireModel" prog_14_method_51_code 2 false (some .int) zcl_243_1 :=
  zA_c (zs_iret (by decide +kernel) rfl) <|
  zA_n
def zc_243 : Nat → zmI := zgetC [zcl_243_0, zcl_243_1]
theorem zmf_243 (l : Launch) : zMf l zc_243 243 := ⟨by decide +kernel, false, (fun h => by cases h), fun pc => zgetC_ok (zA2_c (zmc_243_0 l) (zA2_c (zmc_243_1 l) (zA2_n))) pc⟩
def zcl_244_0 : List (Nat × zmI) := [(0, zm_iload 1 0), (1, zm_i2l 2), (2, zm_pushl 3 0), (3, zm_pushl 6 4095), (6, zm_call 9 201 3 true 99), (9, zm_zret)]
theorem zmc_244_0 (l : Launch) : zAll l "ChessWireModel" prog_14_method_50_code 1 false (some .boolean) zcl_244_0 :=
  zA_c (zOk_fl zn_iload (zs_iload_n (q := 0) rfl (by decide +kernel))) <|
  zA_c (zOk_fl zn_i2l (zs_i2l (by decide +kernel))) <|
  zA_c (zOk_fl zn_pushl (zs_lconst (n := 0) (by decide +kernel) rfl)) <|
  zA_c (zOk_fl zn_pushl (zs_ldc2 (by decide +kernel) zw_1459 rfl)) <|
  zA_c (zk_S zq_201 zw_1172 (by decide +kernel)) <|
  zA_c (zs_zret (by decide +kernel) rfl) <|
  zA_n
def zc_244 : Nat → zmI := zgetC [zcl_244_0]
theorem zmf_244 (l : Launch) : zMf l zc_244 244 := ⟨by decide +kernel, false, (fun h => by cases h), fun pc => zgetC_ok (zA2_c (zmc_244_0 l) (zA2_n)) pc⟩
def zcl_245_0 : List (Nat × zmI) := [(0, zm_aload 1 0), (1, zm_call 4 246 1 true 12), (4, zm_iret)]
theorem zmc_245_0 (l : Launch) : zAll l "ChessWireModel" prog_14_method_53_code 1 false (some .int) zcl_245_0 :=
  zA_c (zOk_fl zn_aload (zs_aload_n (q := 0) rfl (by decide +kernel))) <|
  zA_c (zk_V zq_246 zw_1464 rfl (by decide +kernel)) <|
  zA_c (zs_iret (by decide +kernel) rfl) <|
  zA_n
def zc_245 : Nat → zmI := zgetC [zcl_245_0]
theorem zmf_245 (l : Launch) : zMf l zc_245 245 := ⟨by decide +kernel, false, (fun h => by cases h), fun pc => zgetC_ok (zA2_c (zmc_245_0 l) (zA2_n)) pc⟩
def zcl_246_0 : List (Nat × zmI) := [(0, zm_aload 1 0), (1, zm_push 2 0), (2, zm_aload 3 0), (3, zm_getR 6 12 9), (6, zm_push 7 0), (7, zm_ald 8 100), (8, zm_call 11 242 3 true 12), (11, zm_istore 12 1), (12, zm_aload 13 0), (13, zm_push 14 0), (14, zm_call 17 232 2 false 12), (17, zm_iload 18 1), (18, zm_ifeq 21 38), (21, zm_aload 22 0), (22, zm_getR 25 12 12), (25, zm_push 26 0), (26, zm_ald 27 100), (27, zm_ifle 30 34), (30, zm_push 31 1), (31, zm_goto 52)]
theorem zmc_246_0 (l : Launch) : zAll l "ChessWireModel" prog_14_method_52_code 2 false (some .int) zcl_246_0 :=
  zA_c (zOk_fl zn_aload (zs_aload_n (q := 0) rfl (by decide +kernel))) <|
  zA_c (zOk_fl zn_push (zs_iconst (n := 0) (by decide +kernel) rfl)) <|
  zA_c (zOk_fl zn_aload (zs_aload_n (q := 0) rfl (by decide +kernel))) <|
  zA_c (zOk_fl zn_getR (zs_getR (k := 9) rfl (by decide) (by decide +kernel) rfl (by decide +kernel) zw_1188)) <|
  zA_c (zOk_fl zn_push (zs_iconst (n := 0) (by decide +kernel) rfl)) <|
  zA_c (zOk_fl zn_ald (zs_iald (by decide +kernel))) <|
  zA_c (zk_V zq_242 zw_1448 rfl (by decide +kernel)) <|
  zA_c (zOk_fl zn_istore (zs_istore_n (q := 1) rfl (by decide +kernel))) <|
  zA_c (zOk_fl zn_aload (zs_aload_n (q := 0) rfl (by decide +kernel))) <|
  zA_c (zOk_fl zn_push (zs_iconst (n := 0) (by decide +kernel) rfl)) <|
  zA_c (zk_V zq_232 zw_1411 rfl (by decide +kernel)) <|
  zA_c (zOk_fl zn_iload (zs_iload_n (q := 1) rfl (by decide +kernel))) <|
  zA_c (zOk_fl zn_ifeq (zs_ifeq (off := 20) (by decide +kernel) (by decide))) <|
  zA_c (zOk_fl zn_aload (zs_aload_n (q := 0) rfl (by decide +kernel))) <|
  zA_c (zOk_fl zn_getR (zs_getR (k := 12) rfl (by decide) (by decide +kernel) rfl (by decide +kernel) zw_1191)) <|
  zA_c (zOk_fl zn_push (zs_iconst (n := 0) (by decide +kernel) rfl)) <|
  zA_c (zOk_fl zn_ald (zs_iald (by decide +kernel))) <|
  zA_c (zOk_fl zn_ifle (zs_ifle (off := 7) (by decide +kernel) (by decide))) <|
  zA_c (zOk_fl zn_push (zs_iconst (n := 1) (by decide +kernel) rfl)) <|
  zA_c (zOk_fl zn_goto (zs_goto (off := 21) (by decide +kernel) (by decide))) <|
  zA_n
def zcl_246_1 : List (Nat × zmI) := [(34, zm_push 35 2), (35, zm_goto 52), (38, zm_aload 39 0), (39, zm_getR 42 12 12), (42, zm_push 43 0), (43, zm_ald 44 100), (44, zm_ifle 47 51), (47, zm_push 48 0), (48, zm_goto 52), (51, zm_push 52 3), (52, zm_iret)]
theorem zmc_246_1 (l : Launch) : zAll l "ChessWireModel" prog_14_method_52_code 2 false (some .int) zcl_246_1 :=
  zA_c (zOk_fl zn_push (zs_iconst (n := 2) (by decide +kernel) rfl)) <|
  zA_c (zOk_fl zn_goto (zs_goto (off := 17) (by decide +kernel) (by decide))) <|
  zA_c (zOk_fl zn_aload (zs_aload_n (q := 0) rfl (by decide +kernel))) <|
  zA_c (zOk_fl zn_getR (zs_getR (k := 12) rfl (by decide) (by decide +kernel) rfl (by decide +kernel) zw_1191)) <|
  zA_c (zOk_fl zn_push (zs_iconst (n := 0) (by decide +kernel) rfl)) <|
  zA_c (zOk_fl zn_ald (zs_iald (by decide +kernel))) <|
  zA_c (zOk_fl zn_ifle (zs_ifle (off := 7) (by decide +kernel) (by decide))) <|
  zA_c (zOk_fl zn_push (zs_iconst (n := 0) (by decide +kernel) rfl)) <|
  zA_c (zOk_fl zn_goto (zs_goto (off := 4) (by decide +kernel) (by decide))) <|
  zA_c (zOk_fl zn_push (zs_iconst (n := 3) (by decide +kernel) rfl)) <|
  zA_c (zs_iret (by decide +kernel) rfl) <|
  zA_n
def zc_246 : Nat → zmI := zgetC [zcl_246_0, zcl_246_1]
theorem zmf_246 (l : Launch) : zMf l zc_246 246 := ⟨by decide +kernel, false, (fun h => by cases h), fun pc => zgetC_ok (zA2_c (zmc_246_0 l) (zA2_c (zmc_246_1 l) (zA2_n))) pc⟩
def zcl_247_0 : List (Nat × zmI) := [(0, zm_iload 1 1), (1, zm_call 4 244 1 true 99), (4, zm_ifne 7 10), (7, zm_push 9 (-2)), (9, zm_iret), (10, zm_aload 11 0), (11, zm_push 12 0), (12, zm_iload 13 1), (13, zm_push 15 64), (15, zm_quo 16 z_div), (16, zm_iload 17 1), (17, zm_push 19 64), (19, zm_quo 20 z_rem), (20, zm_call 23 234 4 true 12), (23, zm_ifne 26 29), (26, zm_push 28 (-3)), (28, zm_iret), (29, zm_aload 30 0), (30, zm_push 31 0), (31, zm_iload 32 1)]
theorem zmc_247_0 (l : Launch) : zAll l "ChessWireModel" prog_14_method_54_code 2 false (some .int) zcl_247_0 :=
  zA_c (zOk_fl zn_iload (zs_iload_n (q := 1) rfl (by decide +kernel))) <|
  zA_c (zk_S zq_244 zw_1456 (by decide +kernel)) <|
  zA_c (zOk_fl zn_ifne (zs_ifne (off := 6) (by decide +kernel) (by decide))) <|
  zA_c (zOk_fl zn_push (zs_bipush (n := (-2)) (by decide +kernel) rfl)) <|
  zA_c (zs_iret (by decide +kernel) rfl) <|
  zA_c (zOk_fl zn_aload (zs_aload_n (q := 0) rfl (by decide +kernel))) <|
  zA_c (zOk_fl zn_push (zs_iconst (n := 0) (by decide +kernel) rfl)) <|
  zA_c (zOk_fl zn_iload (zs_iload_n (q := 1) rfl (by decide +kernel))) <|
  zA_c (zOk_fl zn_push (zs_bipush (n := 64) (by decide +kernel) rfl)) <|
  zA_c (zOk_fl zn_quo (zs_idiv (by decide +kernel))) <|
  zA_c (zOk_fl zn_iload (zs_iload_n (q := 1) rfl (by decide +kernel))) <|
  zA_c (zOk_fl zn_push (zs_bipush (n := 64) (by decide +kernel) rfl)) <|
  zA_c (zOk_fl zn_quo (zs_irem (by decide +kernel))) <|
  zA_c (zk_V zq_234 zw_1418 rfl (by decide +kernel)) <|
  zA_c (zOk_fl zn_ifne (zs_ifne (off := 6) (by decide +kernel) (by decide))) <|
  zA_c (zOk_fl zn_push (zs_bipush (n := (-3)) (by decide +kernel) rfl)) <|
  zA_c (zs_iret (by decide +kernel) rfl) <|
  zA_c (zOk_fl zn_aload (zs_aload_n (q := 0) rfl (by decide +kernel))) <|
  zA_c (zOk_fl zn_push (zs_iconst (n := 0) (by decide +kernel) rfl)) <|
  zA_c (zOk_fl zn_iload (zs_iload_n (q := 1) rfl (by decide +kernel))) <|
  zA_n
def zcl_247_1 : List (Nat × zmI) := [(32, zm_call 35 248 3 false 12), (35, zm_aload 36 0), (36, zm_dup 37), (37, zm_getI 40 12 10), (40, zm_push 41 1), (41, zm_bin 42 (fun x y => w32 (x + y))), (42, zm_putI 45 12 10), (45, zm_aload 46 0), (46, zm_getI 49 12 10), (49, zm_iret)]
theorem zmc_247_1 (l : Launch) : zAll l "ChessWireModel" prog_14_method_54_code 2 false (some .int) zcl_247_1 :=
  zA_c (zk_V zq_248 zw_1472 rfl (by decide +kernel)) <|
  zA_c (zOk_fl zn_aload (zs_aload_n (q := 0) rfl (by decide +kernel))) <|
  zA_c (zOk_fl zn_dup (zs_dup (by decide +kernel))) <|
  zA_c (zOk_fl zn_getI (zs_getI (k := 10) rfl (by decide) (by decide +kernel) rfl (by decide +kernel) zw_1189)) <|
  zA_c (zOk_fl zn_push (zs_iconst (n := 1) (by decide +kernel) rfl)) <|
  zA_c (zOk_fl zn_bin (zs_iadd (by decide +kernel))) <|
  zA_c (zOk_sn zn_putI (zs_putI (k := 10) rfl (by decide) (by decide +kernel) rfl rfl (by decide +kernel) zw_1189)) <|
  zA_c (zOk_fl zn_aload (zs_aload_n (q := 0) rfl (by decide +kernel))) <|
  zA_c (zOk_fl zn_getI (zs_getI (k := 10) rfl (by decide) (by decide +kernel) rfl (by decide +kernel) zw_1189)) <|
  zA_c (zs_iret (by decide +kernel) rfl) <|
  zA_n
def zc_247 : Nat → zmI := zgetC [zcl_247_0, zcl_247_1]
theorem zmf_247 (l : Launch) : zMf l zc_247 247 := ⟨by decide +kernel, false, (fun h => by cases h), fun pc => zgetC_ok (zA2_c (zmc_247_0 l) (zA2_c (zmc_247_1 l) (zA2_n))) pc⟩
def zcl_248_0 : List (Nat × zmI) := [(0, zm_aload 1 0), (1, zm_iload 2 1), (2, zm_iload 3 2), (3, zm_push 5 64), (5, zm_quo 6 z_div), (6, zm_iload 7 2), (7, zm_push 9 64), (9, zm_quo 10 z_rem), (10, zm_call 13 241 4 false 12), (13, zm_aload 14 0), (14, zm_getR 17 12 9), (17, zm_iload 18 1), (18, zm_push 20 8), (20, zm_aload 21 0), (21, zm_getR 24 12 9), (24, zm_iload 25 1), (25, zm_ald 26 100), (26, zm_bin 27 (fun x y => w32 (x - y))), (27, zm_iast 28), (28, zm_vret)]
theorem zmc_248_0 (l : Launch) : zAll l "ChessWireModel" prog_14_method_45_code 3 false (none) zcl_248_0 :=
  zA_c (zOk_fl zn_aload (zs_aload_n (q := 0) rfl (by decide +kernel))) <|
  zA_c (zOk_fl zn_iload (zs_iload_n (q := 1) rfl (by decide +kernel))) <|
  zA_c (zOk_fl zn_iload (zs_iload_n (q := 2) rfl (by decide +kernel))) <|
  zA_c (zOk_fl zn_push (zs_bipush (n := 64) (by decide +kernel) rfl)) <|
  zA_c (zOk_fl zn_quo (zs_idiv (by decide +kernel))) <|
  zA_c (zOk_fl zn_iload (zs_iload_n (q := 2) rfl (by decide +kernel))) <|
  zA_c (zOk_fl zn_push (zs_bipush (n := 64) (by decide +kernel) rfl)) <|
  zA_c (zOk_fl zn_quo (zs_irem (by decide +kernel))) <|
  zA_c (zk_V zq_241 zw_1444 rfl (by decide +kernel)) <|
  zA_c (zOk_fl zn_aload (zs_aload_n (q := 0) rfl (by decide +kernel))) <|
  zA_c (zOk_fl zn_getR (zs_getR (k := 9) rfl (by decide) (by decide +kernel) rfl (by decide +kernel) zw_1188)) <|
  zA_c (zOk_fl zn_iload (zs_iload_n (q := 1) rfl (by decide +kernel))) <|
  zA_c (zOk_fl zn_push (zs_bipush (n := 8) (by decide +kernel) rfl)) <|
  zA_c (zOk_fl zn_aload (zs_aload_n (q := 0) rfl (by decide +kernel))) <|
  zA_c (zOk_fl zn_getR (zs_getR (k := 9) rfl (by decide) (by decide +kernel) rfl (by decide +kernel) zw_1188)) <|
  zA_c (zOk_fl zn_iload (zs_iload_n (q := 1) rfl (by decide +kernel))) <|
  zA_c (zOk_fl zn_ald (zs_iald (by decide +kernel))) <|
  zA_c (zOk_fl zn_bin (zs_isub (by decide +kernel))) <|
  zA_c (zOk_sn zn_iast (zs_iast (by decide +kernel))) <|
  zA_c (zs_vret (by decide +kernel) rfl) <|
  zA_n
def zc_248 : Nat → zmI := zgetC [zcl_248_0]
theorem zmf_248 (l : Launch) : zMf l zc_248 248 := ⟨by decide +kernel, false, (fun h => by cases h), fun pc => zgetC_ok (zA2_c (zmc_248_0 l) (zA2_n)) pc⟩
def zcl_249_0 : List (Nat × zmI) := [(0, zm_iload 1 1), (1, zm_call 4 204 1 true 99), (4, zm_ifne 7 10), (7, zm_push 9 (-2)), (9, zm_iret), (10, zm_aload 11 0), (11, zm_getR 14 12 0), (14, zm_iload 15 1), (15, zm_ald 16 100), (16, zm_ifge 19 25), (19, zm_aload 20 0), (20, zm_push 21 1), (21, zm_call 24 205 2 true 12), (24, zm_iret), (25, zm_push 26 0), (26, zm_istore 27 2), (27, zm_iload 28 2), (28, zm_aload 29 0), (29, zm_getR 32 12 1)]
theorem zmc_249_0 (l : Launch) : zAll l "ChessWireModel" prog_14_method_55_code 3 false (some .int) zcl_249_0 :=
  zA_c (zOk_fl zn_iload (zs_iload_n (q := 1) rfl (by decide +kernel))) <|
  zA_c (zk_S zq_204 zw_1299 (by decide +kernel)) <|
  zA_c (zOk_fl zn_ifne (zs_ifne (off := 6) (by decide +kernel) (by decide))) <|
  zA_c (zOk_fl zn_push (zs_bipush (n := (-2)) (by decide +kernel) rfl)) <|
  zA_c (zs_iret (by decide +kernel) rfl) <|
  zA_c (zOk_fl zn_aload (zs_aload_n (q := 0) rfl (by decide +kernel))) <|
  zA_c (zOk_fl zn_getR (zs_getR (k := 0) rfl (by decide) (by decide +kernel) rfl (by decide +kernel) zw_1179)) <|
  zA_c (zOk_fl zn_iload (zs_iload_n (q := 1) rfl (by decide +kernel))) <|
  zA_c (zOk_fl zn_ald (zs_iald (by decide +kernel))) <|
  zA_c (zOk_fl zn_ifge (zs_ifge (off := 9) (by decide +kernel) (by decide))) <|
  zA_c (zOk_fl zn_aload (zs_aload_n (q := 0) rfl (by decide +kernel))) <|
  zA_c (zOk_fl zn_push (zs_iconst (n := 1) (by decide +kernel) rfl)) <|
  zA_c (zk_V zq_205 zw_1304 rfl (by decide +kernel)) <|
  zA_c (zs_iret (by decide +kernel) rfl) <|
  zA_c (zOk_fl zn_push (zs_iconst (n := 0) (by decide +kernel) rfl)) <|
  zA_c (zOk_fl zn_istore (zs_istore_n (q := 2) rfl (by decide +kernel))) <|
  zA_c (zOk_fl zn_iload (zs_iload_n (q := 2) rfl (by decide +kernel))) <|
  zA_c (zOk_fl zn_aload (zs_aload_n (q := 0) rfl (by decide +kernel))) <|
  zA_c (zOk_fl zn_getR (zs_getR (k := 1) rfl (by decide) (by decide +kernel) rfl (by decide +kernel) zw_1180)) <|
  zA_n
def zcl_249_1 : List (Nat × zmI) := [(32, zm_iload 33 1), (33, zm_ald 34 100), (34, zm_icge 37 61), (37, zm_aload 38 0), (38, zm_aload 39 0), (39, zm_getR 42 12 2), (42, zm_push 44 60), (44, zm_iload 45 1), (45, zm_bin 46 (fun x y => w32 (x * y))), (46, zm_iload 47 2), (47, zm_bin 48 (fun x y => w32 (x + y))), (48, zm_ald 49 100), (49, zm_call 52 247 2 true 12), (52, zm_ifle 55 61), (55, zm_iinc 58 2 1), (58, zm_goto 27), (61, zm_iload 62 2), (62, zm_iret)]
theorem zmc_249_1 (l : Launch) : zAll l "ChessWireModel" prog_14_method_55_code 3 false (some .int) zcl_249_1 :=
  zA_c (zOk_fl zn_iload (zs_iload_n (q := 1) rfl (by decide +kernel))) <|
  zA_c (zOk_fl zn_ald (zs_iald (by decide +kernel))) <|
  zA_c (zOk_fl zn_icge (zs_icge (off := 27) (by decide +kernel) (by decide))) <|
  zA_c (zOk_fl zn_aload (zs_aload_n (q := 0) rfl (by decide +kernel))) <|
  zA_c (zOk_fl zn_aload (zs_aload_n (q := 0) rfl (by decide +kernel))) <|
  zA_c (zOk_fl zn_getR (zs_getR (k := 2) rfl (by decide) (by decide +kernel) rfl (by decide +kernel) zw_1181)) <|
  zA_c (zOk_fl zn_push (zs_bipush (n := 60) (by decide +kernel) rfl)) <|
  zA_c (zOk_fl zn_iload (zs_iload_n (q := 1) rfl (by decide +kernel))) <|
  zA_c (zOk_fl zn_bin (zs_imul (by decide +kernel))) <|
  zA_c (zOk_fl zn_iload (zs_iload_n (q := 2) rfl (by decide +kernel))) <|
  zA_c (zOk_fl zn_bin (zs_iadd (by decide +kernel))) <|
  zA_c (zOk_fl zn_ald (zs_iald (by decide +kernel))) <|
  zA_c (zk_V zq_247 zw_1480 rfl (by decide +kernel)) <|
  zA_c (zOk_fl zn_ifle (zs_ifle (off := 9) (by decide +kernel) (by decide))) <|
  zA_c (zOk_fl zn_iinc (zs_iinc rfl (by decide +kernel))) <|
  zA_c (zOk_fl zn_goto (zs_goto (off := (-31)) (by decide +kernel) (by decide))) <|
  zA_c (zOk_fl zn_iload (zs_iload_n (q := 2) rfl (by decide +kernel))) <|
  zA_c (zs_iret (by decide +kernel) rfl) <|
  zA_n
def zc_249 : Nat → zmI := zgetC [zcl_249_0, zcl_249_1]
theorem zmf_249 (l : Launch) : zMf l zc_249 249 := ⟨by decide +kernel, false, (fun h => by cases h), fun pc => zgetC_ok (zA2_c (zmc_249_0 l) (zA2_c (zmc_249_1 l) (zA2_n))) pc⟩
def zcl_250_0 : List (Nat × zmI) := [(0, zm_aload 1 0), (1, zm_getI 4 12 10), (4, zm_istore 5 1), (5, zm_aload 6 0), (6, zm_call 9 194 1 true 12), (9, zm_pop 10), (10, zm_iload 11 1), (11, zm_iret)]
theorem zmc_250_0 (l : Launch) : zAll l "ChessWireModel" prog_14_method_56_code 2 false (some .int) zcl_250_0 :=
  zA_c (zOk_fl zn_aload (zs_aload_n (q := 0) rfl (by decide +kernel))) <|
  zA_c (zOk_fl zn_getI (zs_getI (k := 10) rfl (by decide) (by decide +kernel) rfl (by decide +kernel) zw_1189)) <|
  zA_c (zOk_fl zn_istore (zs_istore_n (q := 1) rfl (by decide +kernel))) <|
  zA_c (zOk_fl zn_aload (zs_aload_n (q := 0) rfl (by decide +kernel))) <|
  zA_c (zk_V zq_194 zw_1144 rfl (by decide +kernel)) <|
  zA_c (zOk_fl zn_pop (zs_pop (by decide +kernel))) <|
  zA_c (zOk_fl zn_iload (zs_iload_n (q := 1) rfl (by decide +kernel))) <|
  zA_c (zs_iret (by decide +kernel) rfl) <|
  zA_n
def zc_250 : Nat → zmI := zgetC [zcl_250_0]
theorem zmf_250 (l : Launch) : zMf l zc_250 250 := ⟨by decide +kernel, false, (fun h => by cases h), fun pc => zgetC_ok (zA2_c (zmc_250_0 l) (zA2_n)) pc⟩
def zcl_251_0 : List (Nat × zmI) := [(0, zm_iload 1 1), (1, zm_call 4 244 1 true 99), (4, zm_ifeq 7 12), (7, zm_iload 8 2), (8, zm_push 9 (-1)), (9, zm_icge 12 15), (12, zm_push 14 (-2)), (14, zm_iret), (15, zm_aload 16 0), (16, zm_push 17 0), (17, zm_iload 18 1), (18, zm_push 20 64), (20, zm_quo 21 z_div), (21, zm_iload 22 1), (22, zm_push 24 64), (24, zm_quo 25 z_rem), (25, zm_call 28 234 4 true 12), (28, zm_ifeq 31 40), (31, zm_aload 32 0)]
theorem zmc_251_0 (l : Launch) : zAll l "ChessWireModel" prog_14_method_69_code 3 false (some .int) zcl_251_0 :=
  zA_c (zOk_fl zn_iload (zs_iload_n (q := 1) rfl (by decide +kernel))) <|
  zA_c (zk_S zq_244 zw_1456 (by decide +kernel)) <|
  zA_c (zOk_fl zn_ifeq (zs_ifeq (off := 8) (by decide +kernel) (by decide))) <|
  zA_c (zOk_fl zn_iload (zs_iload_n (q := 2) rfl (by decide +kernel))) <|
  zA_c (zOk_fl zn_push (zs_iconst (n := (-1)) (by decide +kernel) rfl)) <|
  zA_c (zOk_fl zn_icge (zs_icge (off := 6) (by decide +kernel) (by decide))) <|
  zA_c (zOk_fl zn_push (zs_bipush (n := (-2)) (by decide +kernel) rfl)) <|
  zA_c (zs_iret (by decide +kernel) rfl) <|
  zA_c (zOk_fl zn_aload (zs_aload_n (q := 0) rfl (by decide +kernel))) <|
  zA_c (zOk_fl zn_push (zs_iconst (n := 0) (by decide +kernel) rfl)) <|
  zA_c (zOk_fl zn_iload (zs_iload_n (q := 1) rfl (by decide +kernel))) <|
  zA_c (zOk_fl zn_push (zs_bipush (n := 64) (by decide +kernel) rfl)) <|
  zA_c (zOk_fl zn_quo (zs_idiv (by decide +kernel))) <|
  zA_c (zOk_fl zn_iload (zs_iload_n (q := 1) rfl (by decide +kernel))) <|
  zA_c (zOk_fl zn_push (zs_bipush (n := 64) (by decide +kernel) rfl)) <|
  zA_c (zOk_fl zn_quo (zs_irem (by decide +kernel))) <|
  zA_c (zk_V zq_234 zw_1418 rfl (by decide +kernel)) <|
  zA_c (zOk_fl zn_ifeq (zs_ifeq (off := 12) (by decide +kernel) (by decide))) <|
  zA_c (zOk_fl zn_aload (zs_aload_n (q := 0) rfl (by decide +kernel))) <|
  zA_n
def zcl_251_1 : List (Nat × zmI) := [(32, zm_iload 33 1), (33, zm_iload 34 2), (34, zm_call 37 252 3 true 12), (37, zm_goto 42), (40, zm_push 42 (-3)), (42, zm_iret)]
theorem zmc_251_1 (l : Launch) : zAll l "ChessWireModel" prog_14_method_69_code 3 false (some .int) zcl_251_1 :=
  zA_c (zOk_fl zn_iload (zs_iload_n (q := 1) rfl (by decide +kernel))) <|
  zA_c (zOk_fl zn_iload (zs_iload_n (q := 2) rfl (by decide +kernel))) <|
  zA_c (zk_V zq_252 zw_1489 rfl (by decide +kernel)) <|
  zA_c (zOk_fl zn_goto (zs_goto (off := 5) (by decide +kernel) (by decide))) <|
  zA_c (zOk_fl zn_push (zs_bipush (n := (-3)) (by decide +kernel) rfl)) <|
  zA_c (zs_iret (by decide +kernel) rfl) <|
  zA_n
def zc_251 : Nat → zmI := zgetC [zcl_251_0, zcl_251_1]
theorem zmf_251 (l : Launch) : zMf l zc_251 251 := ⟨by decide +kernel, false, (fun h => by cases h), fun pc => zgetC_ok (zA2_c (zmc_251_0 l) (zA2_c (zmc_251_1 l) (zA2_n))) pc⟩
def zcl_252_0 : List (Nat × zmI) := [(0, zm_aload 1 0), (1, zm_push 2 0), (2, zm_call 5 232 2 false 12), (5, zm_aload 6 0), (6, zm_push 7 0), (7, zm_iload 8 1), (8, zm_call 11 253 3 true 12), (11, zm_pop 12), (12, zm_iload 13 2), (13, zm_push 14 (-1)), (14, zm_icne 17 24), (17, zm_aload 18 0), (18, zm_getI 21 12 19), (21, zm_goto 42), (24, zm_iload 25 2), (25, zm_aload 26 0), (26, zm_getI 29 12 19), (29, zm_icge 32 41)]
theorem zmc_252_0 (l : Launch) : zAll l "ChessWireModel" prog_14_method_68_code 3 false (some .int) zcl_252_0 :=
  zA_c (zOk_fl zn_aload (zs_aload_n (q := 0) rfl (by decide +kernel))) <|
  zA_c (zOk_fl zn_push (zs_iconst (n := 0) (by decide +kernel) rfl)) <|
  zA_c (zk_V zq_232 zw_1411 rfl (by decide +kernel)) <|
  zA_c (zOk_fl zn_aload (zs_aload_n (q := 0) rfl (by decide +kernel))) <|
  zA_c (zOk_fl zn_push (zs_iconst (n := 0) (by decide +kernel) rfl)) <|
  zA_c (zOk_fl zn_iload (zs_iload_n (q := 1) rfl (by decide +kernel))) <|
  zA_c (zk_V zq_253 zw_1493 rfl (by decide +kernel)) <|
  zA_c (zOk_fl zn_pop (zs_pop (by decide +kernel))) <|
  zA_c (zOk_fl zn_iload (zs_iload_n (q := 2) rfl (by decide +kernel))) <|
  zA_c (zOk_fl zn_push (zs_iconst (n := (-1)) (by decide +kernel) rfl)) <|
  zA_c (zOk_fl zn_icne (zs_icne (off := 10) (by decide +kernel) (by decide))) <|
  zA_c (zOk_fl zn_aload (zs_aload_n (q := 0) rfl (by decide +kernel))) <|
  zA_c (zOk_fl zn_getI (zs_getI (k := 19) rfl (by decide) (by decide +kernel) rfl (by decide +kernel) zw_1198)) <|
  zA_c (zOk_fl zn_goto (zs_goto (off := 21) (by decide +kernel) (by decide))) <|
  zA_c (zOk_fl zn_iload (zs_iload_n (q := 2) rfl (by decide +kernel))) <|
  zA_c (zOk_fl zn_aload (zs_aload_n (q := 0) rfl (by decide +kernel))) <|
  zA_c (zOk_fl zn_getI (zs_getI (k := 19) rfl (by decide) (by decide +kernel) rfl (by decide +kernel) zw_1198)) <|
  zA_c (zOk_fl zn_icge (zs_icge (off := 12) (by decide +kernel) (by decide))) <|
  zA_n
def zcl_252_1 : List (Nat × zmI) := [(32, zm_aload 33 0), (33, zm_getR 36 12 18), (36, zm_iload 37 2), (37, zm_ald 38 100), (38, zm_goto 42), (41, zm_push 42 (-1)), (42, zm_iret)]
theorem zmc_252_1 (l : Launch) : zAll l "ChessWireModel" prog_14_method_68_code 3 false (some .int) zcl_252_1 :=
  zA_c (zOk_fl zn_aload (zs_aload_n (q := 0) rfl (by decide +kernel))) <|
  zA_c (zOk_fl zn_getR (zs_getR (k := 18) rfl (by decide) (by decide +kernel) rfl (by decide +kernel) zw_1197)) <|
  zA_c (zOk_fl zn_iload (zs_iload_n (q := 2) rfl (by decide +kernel))) <|
  zA_c (zOk_fl zn_ald (zs_iald (by decide +kernel))) <|
  zA_c (zOk_fl zn_goto (zs_goto (off := 4) (by decide +kernel) (by decide))) <|
  zA_c (zOk_fl zn_push (zs_iconst (n := (-1)) (by decide +kernel) rfl)) <|
  zA_c (zs_iret (by decide +kernel) rfl) <|
  zA_n
def zc_252 : Nat → zmI := zgetC [zcl_252_0, zcl_252_1]
theorem zmf_252 (l : Launch) : zMf l zc_252 252 := ⟨by decide +kernel, false, (fun h => by cases h), fun pc => zgetC_ok (zA2_c (zmc_252_0 l) (zA2_c (zmc_252_1 l) (zA2_n))) pc⟩
def zcl_253_0 : List (Nat × zmI) := [(0, zm_aload 1 0), (1, zm_push 3 6), (3, zm_putI 6 12 19), (6, zm_push 7 0), (7, zm_istore 8 3), (8, zm_iload 9 3), (9, zm_push 11 12), (11, zm_icge 14 83), (14, zm_aload 15 0), (15, zm_iload 16 1), (16, zm_iload 17 2), (17, zm_iload 18 3), (18, zm_call 21 254 4 false 12), (21, zm_aload 22 0), (22, zm_call 25 256 1 true 12), (25, zm_ifeq 28 77), (28, zm_aload 29 0), (29, zm_iload 30 1), (30, zm_call 33 257 2 true 12)]
theorem zmc_253_0 (l : Launch) : zAll l "ChessWireModel" prog_14_method_67_code 5 false (some .int) zcl_253_0 :=
  zA_c (zOk_fl zn_aload (zs_aload_n (q := 0) rfl (by decide +kernel))) <|
  zA_c (zOk_fl zn_push (zs_bipush (n := 6) (by decide +kernel) rfl)) <|
  zA_c (zOk_sn zn_putI (zs_putI (k := 19) rfl (by decide) (by decide +kernel) rfl rfl (by decide +kernel) zw_1198)) <|
  zA_c (zOk_fl zn_push (zs_iconst (n := 0) (by decide +kernel) rfl)) <|
  zA_c (zOk_fl zn_istore (zs_istore_n (q := 3) rfl (by decide +kernel))) <|
  zA_c (zOk_fl zn_iload (zs_iload_n (q := 3) rfl (by decide +kernel))) <|
  zA_c (zOk_fl zn_push (zs_bipush (n := 12) (by decide +kernel) rfl)) <|
  zA_c (zOk_fl zn_icge (zs_icge (off := 72) (by decide +kernel) (by decide))) <|
  zA_c (zOk_fl zn_aload (zs_aload_n (q := 0) rfl (by decide +kernel))) <|
  zA_c (zOk_fl zn_iload (zs_iload_n (q := 1) rfl (by decide +kernel))) <|
  zA_c (zOk_fl zn_iload (zs_iload_n (q := 2) rfl (by decide +kernel))) <|
  zA_c (zOk_fl zn_iload (zs_iload_n (q := 3) rfl (by decide +kernel))) <|
  zA_c (zk_V zq_254 zw_1497 rfl (by decide +kernel)) <|
  zA_c (zOk_fl zn_aload (zs_aload_n (q := 0) rfl (by decide +kernel))) <|
  zA_c (zk_V zq_256 zw_1505 rfl (by decide +kernel)) <|
  zA_c (zOk_fl zn_ifeq (zs_ifeq (off := 52) (by decide +kernel) (by decide))) <|
  zA_c (zOk_fl zn_aload (zs_aload_n (q := 0) rfl (by decide +kernel))) <|
  zA_c (zOk_fl zn_iload (zs_iload_n (q := 1) rfl (by decide +kernel))) <|
  zA_c (zk_V zq_257 zw_1509 rfl (by decide +kernel)) <|
  zA_n
def zcl_253_1 : List (Nat × zmI) := [(33, zm_push 34 1), (34, zm_icne 37 77), (37, zm_aload 38 0), (38, zm_aload 39 0), (39, zm_getI 42 12 21), (42, zm_putI 45 12 19), (45, zm_push 46 0), (46, zm_istore 48 4), (48, zm_iload 50 4), (50, zm_aload 51 0), (51, zm_getI 54 12 21), (54, zm_icge 57 77), (57, zm_aload 58 0), (58, zm_getR 61 12 18), (61, zm_iload 63 4), (63, zm_aload 64 0)]
theorem zmc_253_1 (l : Launch) : zAll l "ChessWireModel" prog_14_method_67_code 5 false (some .int) zcl_253_1 :=
  zA_c (zOk_fl zn_push (zs_iconst (n := 1) (by decide +kernel) rfl)) <|
  zA_c (zOk_fl zn_icne (zs_icne (off := 43) (by decide +kernel) (by decide))) <|
  zA_c (zOk_fl zn_aload (zs_aload_n (q := 0) rfl (by decide +kernel))) <|
  zA_c (zOk_fl zn_aload (zs_aload_n (q := 0) rfl (by decide +kernel))) <|
  zA_c (zOk_fl zn_getI (zs_getI (k := 21) rfl (by decide) (by decide +kernel) rfl (by decide +kernel) zw_1200)) <|
  zA_c (zOk_sn zn_putI (zs_putI (k := 19) rfl (by decide) (by decide +kernel) rfl rfl (by decide +kernel) zw_1198)) <|
  zA_c (zOk_fl zn_push (zs_iconst (n := 0) (by decide +kernel) rfl)) <|
  zA_c (zOk_fl zn_istore (zs_istore (by decide +kernel))) <|
  zA_c (zOk_fl zn_iload (zs_iload (by decide +kernel))) <|
  zA_c (zOk_fl zn_aload (zs_aload_n (q := 0) rfl (by decide +kernel))) <|
  zA_c (zOk_fl zn_getI (zs_getI (k := 21) rfl (by decide) (by decide +kernel) rfl (by decide +kernel) zw_1200)) <|
  zA_c (zOk_fl zn_icge (zs_icge (off := 23) (by decide +kernel) (by decide))) <|
  zA_c (zOk_fl zn_aload (zs_aload_n (q := 0) rfl (by decide +kernel))) <|
  zA_c (zOk_fl zn_getR (zs_getR (k := 18) rfl (by decide) (by decide +kernel) rfl (by decide +kernel) zw_1197)) <|
  zA_c (zOk_fl zn_iload (zs_iload (by decide +kernel))) <|
  zA_c (zOk_fl zn_aload (zs_aload_n (q := 0) rfl (by decide +kernel))) <|
  zA_n
def zcl_253_2 : List (Nat × zmI) := [(64, zm_getR 67 12 20), (67, zm_iload 69 4), (69, zm_ald 70 100), (70, zm_iast 71), (71, zm_iinc 74 4 1), (74, zm_goto 48), (77, zm_iinc 80 3 1), (80, zm_goto 8), (83, zm_aload 84 0), (84, zm_getI 87 12 19), (87, zm_iret)]
theorem zmc_253_2 (l : Launch) : zAll l "ChessWireModel" prog_14_method_67_code 5 false (some .int) zcl_253_2 :=
  zA_c (zOk_fl zn_getR (zs_getR (k := 20) rfl (by decide) (by decide +kernel) rfl (by decide +kernel) zw_1199)) <|
  zA_c (zOk_fl zn_iload (zs_iload (by decide +kernel))) <|
  zA_c (zOk_fl zn_ald (zs_iald (by decide +kernel))) <|
  zA_c (zOk_sn zn_iast (zs_iast (by decide +kernel))) <|
  zA_c (zOk_fl zn_iinc (zs_iinc rfl (by decide +kernel))) <|
  zA_c (zOk_fl zn_goto (zs_goto (off := (-26)) (by decide +kernel) (by decide))) <|
  zA_c (zOk_fl zn_iinc (zs_iinc rfl (by decide +kernel))) <|
  zA_c (zOk_fl zn_goto (zs_goto (off := (-72)) (by decide +kernel) (by decide))) <|
  zA_c (zOk_fl zn_aload (zs_aload_n (q := 0) rfl (by decide +kernel))) <|
  zA_c (zOk_fl zn_getI (zs_getI (k := 19) rfl (by decide) (by decide +kernel) rfl (by decide +kernel) zw_1198)) <|
  zA_c (zs_iret (by decide +kernel) rfl) <|
  zA_n
def zc_253 : Nat → zmI := zgetC [zcl_253_0, zcl_253_1, zcl_253_2]
theorem zmf_253 (l : Launch) : zMf l zc_253 253 := ⟨by decide +kernel, false, (fun h => by cases h), fun pc => zgetC_ok (zA2_c (zmc_253_0 l) (zA2_c (zmc_253_1 l) (zA2_c (zmc_253_2 l) (zA2_n)))) pc⟩
def zcl_254_0 : List (Nat × zmI) := [(0, zm_iload 1 2), (1, zm_push 3 64), (3, zm_quo 4 z_div), (4, zm_istore 6 4), (6, zm_iload 7 2), (7, zm_push 9 64), (9, zm_quo 10 z_rem), (10, zm_istore 12 5), (12, zm_iload 13 3), (13, zm_push 14 2), (14, zm_quo 15 z_div), (15, zm_istore 17 6), (17, zm_aload 18 0), (18, zm_push 19 0), (19, zm_putI 22 12 21), (22, zm_aload 23 0), (23, zm_iload 24 3), (24, zm_push 25 2), (25, zm_quo 26 z_rem), (26, zm_ifne 29 33), (29, zm_push 30 (-1)), (30, zm_goto 48)]
theorem zmc_254_0 (l : Launch) : zAll l "ChessWireModel" prog_14_method_65_code 7 false (none) zcl_254_0 :=
  zA_c (zOk_fl zn_iload (zs_iload_n (q := 2) rfl (by decide +kernel))) <|
  zA_c (zOk_fl zn_push (zs_bipush (n := 64) (by decide +kernel) rfl)) <|
  zA_c (zOk_fl zn_quo (zs_idiv (by decide +kernel))) <|
  zA_c (zOk_fl zn_istore (zs_istore (by decide +kernel))) <|
  zA_c (zOk_fl zn_iload (zs_iload_n (q := 2) rfl (by decide +kernel))) <|
  zA_c (zOk_fl zn_push (zs_bipush (n := 64) (by decide +kernel) rfl)) <|
  zA_c (zOk_fl zn_quo (zs_irem (by decide +kernel))) <|
  zA_c (zOk_fl zn_istore (zs_istore (by decide +kernel))) <|
  zA_c (zOk_fl zn_iload (zs_iload_n (q := 3) rfl (by decide +kernel))) <|
  zA_c (zOk_fl zn_push (zs_iconst (n := 2) (by decide +kernel) rfl)) <|
  zA_c (zOk_fl zn_quo (zs_idiv (by decide +kernel))) <|
  zA_c (zOk_fl zn_istore (zs_istore (by decide +kernel))) <|
  zA_c (zOk_fl zn_aload (zs_aload_n (q := 0) rfl (by decide +kernel))) <|
  zA_c (zOk_fl zn_push (zs_iconst (n := 0) (by decide +kernel) rfl)) <|
  zA_c (zOk_sn zn_putI (zs_putI (k := 21) rfl (by decide) (by decide +kernel) rfl rfl (by decide +kernel) zw_1200)) <|
  zA_c (zOk_fl zn_aload (zs_aload_n (q := 0) rfl (by decide +kernel))) <|
  zA_c (zOk_fl zn_iload (zs_iload_n (q := 3) rfl (by decide +kernel))) <|
  zA_c (zOk_fl zn_push (zs_iconst (n := 2) (by decide +kernel) rfl)) <|
  zA_c (zOk_fl zn_quo (zs_irem (by decide +kernel))) <|
  zA_c (zOk_fl zn_ifne (zs_ifne (off := 7) (by decide +kernel) (by decide))) <|
  zA_c (zOk_fl zn_push (zs_iconst (n := (-1)) (by decide +kernel) rfl)) <|
  zA_c (zOk_fl zn_goto (zs_goto (off := 18) (by decide +kernel) (by decide))) <|
  zA_n
def zcl_254_1 : List (Nat × zmI) := [(33, zm_aload 34 0), (34, zm_getR 37 12 8), (37, zm_push 39 64), (39, zm_iload 40 1), (40, zm_bin 41 (fun x y => w32 (x * y))), (41, zm_iload 43 4), (43, zm_bin 44 (fun x y => w32 (x + y))), (44, zm_ald 45 100), (45, zm_push 47 8), (47, zm_quo 48 z_rem), (48, zm_putI 51 12 13), (51, zm_aload 52 0), (52, zm_iload 54 6), (54, zm_push 55 3), (55, zm_iceq 58 64), (58, zm_iload 60 6), (60, zm_push 61 5), (61, zm_icne 64 72)]
theorem zmc_254_1 (l : Launch) : zAll l "ChessWireModel" prog_14_method_65_code 7 false (none) zcl_254_1 :=
  zA_c (zOk_fl zn_aload (zs_aload_n (q := 0) rfl (by decide +kernel))) <|
  zA_c (zOk_fl zn_getR (zs_getR (k := 8) rfl (by decide) (by decide +kernel) rfl (by decide +kernel) zw_1187)) <|
  zA_c (zOk_fl zn_push (zs_bipush (n := 64) (by decide +kernel) rfl)) <|
  zA_c (zOk_fl zn_iload (zs_iload_n (q := 1) rfl (by decide +kernel))) <|
  zA_c (zOk_fl zn_bin (zs_imul (by decide +kernel))) <|
  zA_c (zOk_fl zn_iload (zs_iload (by decide +kernel))) <|
  zA_c (zOk_fl zn_bin (zs_iadd (by decide +kernel))) <|
  zA_c (zOk_fl zn_ald (zs_iald (by decide +kernel))) <|
  zA_c (zOk_fl zn_push (zs_bipush (n := 8) (by decide +kernel) rfl)) <|
  zA_c (zOk_fl zn_quo (zs_irem (by decide +kernel))) <|
  zA_c (zOk_sn zn_putI (zs_putI (k := 13) rfl (by decide) (by decide +kernel) rfl rfl (by decide +kernel) zw_1192)) <|
  zA_c (zOk_fl zn_aload (zs_aload_n (q := 0) rfl (by decide +kernel))) <|
  zA_c (zOk_fl zn_iload (zs_iload (by decide +kernel))) <|
  zA_c (zOk_fl zn_push (zs_iconst (n := 3) (by decide +kernel) rfl)) <|
  zA_c (zOk_fl zn_iceq (zs_iceq (off := 9) (by decide +kernel) (by decide))) <|
  zA_c (zOk_fl zn_iload (zs_iload (by decide +kernel))) <|
  zA_c (zOk_fl zn_push (zs_iconst (n := 5) (by decide +kernel) rfl)) <|
  zA_c (zOk_fl zn_icne (zs_icne (off := 11) (by decide +kernel) (by decide))) <|
  zA_n
def zcl_254_2 : List (Nat × zmI) := [(64, zm_iload 66 4), (66, zm_push 68 8), (68, zm_quo 69 z_rem), (69, zm_goto 73), (72, zm_push 73 (-1)), (73, zm_putI 76 12 14), (76, zm_aload 77 0), (77, zm_iload 79 6), (79, zm_push 80 3), (80, zm_icle 83 91), (83, zm_iload 85 4), (85, zm_push 87 8), (87, zm_quo 88 z_div), (88, zm_goto 92), (91, zm_push 92 (-1)), (92, zm_putI 95 12 15), (95, zm_aload 96 0)]
theorem zmc_254_2 (l : Launch) : zAll l "ChessWireModel" prog_14_method_65_code 7 false (none) zcl_254_2 :=
  zA_c (zOk_fl zn_iload (zs_iload (by decide +kernel))) <|
  zA_c (zOk_fl zn_push (zs_bipush (n := 8) (by decide +kernel) rfl)) <|
  zA_c (zOk_fl zn_quo (zs_irem (by decide +kernel))) <|
  zA_c (zOk_fl zn_goto (zs_goto (off := 4) (by decide +kernel) (by decide))) <|
  zA_c (zOk_fl zn_push (zs_iconst (n := (-1)) (by decide +kernel) rfl)) <|
  zA_c (zOk_sn zn_putI (zs_putI (k := 14) rfl (by decide) (by decide +kernel) rfl rfl (by decide +kernel) zw_1193)) <|
  zA_c (zOk_fl zn_aload (zs_aload_n (q := 0) rfl (by decide +kernel))) <|
  zA_c (zOk_fl zn_iload (zs_iload (by decide +kernel))) <|
  zA_c (zOk_fl zn_push (zs_iconst (n := 3) (by decide +kernel) rfl)) <|
  zA_c (zOk_fl zn_icle (zs_icle (off := 11) (by decide +kernel) (by decide))) <|
  zA_c (zOk_fl zn_iload (zs_iload (by decide +kernel))) <|
  zA_c (zOk_fl zn_push (zs_bipush (n := 8) (by decide +kernel) rfl)) <|
  zA_c (zOk_fl zn_quo (zs_idiv (by decide +kernel))) <|
  zA_c (zOk_fl zn_goto (zs_goto (off := 4) (by decide +kernel) (by decide))) <|
  zA_c (zOk_fl zn_push (zs_iconst (n := (-1)) (by decide +kernel) rfl)) <|
  zA_c (zOk_sn zn_putI (zs_putI (k := 15) rfl (by decide) (by decide +kernel) rfl rfl (by decide +kernel) zw_1194)) <|
  zA_c (zOk_fl zn_aload (zs_aload_n (q := 0) rfl (by decide +kernel))) <|
  zA_n
def zcl_254_3 : List (Nat × zmI) := [(96, zm_iload 98 6), (98, zm_push 99 1), (99, zm_icne 102 106), (102, zm_push 103 (-1)), (103, zm_goto 111), (106, zm_iload 108 5), (108, zm_push 110 8), (110, zm_quo 111 z_rem), (111, zm_putI 114 12 16), (114, zm_aload 115 0), (115, zm_iload 117 6), (117, zm_ifne 120 124), (120, zm_push 121 (-1)), (121, zm_goto 129), (124, zm_iload 126 5), (126, zm_push 128 8)]
theorem zmc_254_3 (l : Launch) : zAll l "ChessWireModel" prog_14_method_65_code 7 false (none) zcl_254_3 :=
  zA_c (zOk_fl zn_iload (zs_iload (by decide +kernel))) <|
  zA_c (zOk_fl zn_push (zs_iconst (n := 1) (by decide +kernel) rfl)) <|
  zA_c (zOk_fl zn_icne (zs_icne (off := 7) (by decide +kernel) (by decide))) <|
  zA_c (zOk_fl zn_push (zs_iconst (n := (-1)) (by decide +kernel) rfl)) <|
  zA_c (zOk_fl zn_goto (zs_goto (off := 8) (by decide +kernel) (by decide))) <|
  zA_c (zOk_fl zn_iload (zs_iload (by decide +kernel))) <|
  zA_c (zOk_fl zn_push (zs_bipush (n := 8) (by decide +kernel) rfl)) <|
  zA_c (zOk_fl zn_quo (zs_irem (by decide +kernel))) <|
  zA_c (zOk_sn zn_putI (zs_putI (k := 16) rfl (by decide) (by decide +kernel) rfl rfl (by decide +kernel) zw_1195)) <|
  zA_c (zOk_fl zn_aload (zs_aload_n (q := 0) rfl (by decide +kernel))) <|
  zA_c (zOk_fl zn_iload (zs_iload (by decide +kernel))) <|
  zA_c (zOk_fl zn_ifne (zs_ifne (off := 7) (by decide +kernel) (by decide))) <|
  zA_c (zOk_fl zn_push (zs_iconst (n := (-1)) (by decide +kernel) rfl)) <|
  zA_c (zOk_fl zn_goto (zs_goto (off := 8) (by decide +kernel) (by decide))) <|
  zA_c (zOk_fl zn_iload (zs_iload (by decide +kernel))) <|
  zA_c (zOk_fl zn_push (zs_bipush (n := 8) (by decide +kernel) rfl)) <|
  zA_n
def zcl_254_4 : List (Nat × zmI) := [(128, zm_quo 129 z_div), (129, zm_putI 132 12 17), (132, zm_aload 133 0), (133, zm_getI 136 12 13), (136, zm_push 137 (-1)), (137, zm_iceq 140 151), (140, zm_aload 141 0), (141, zm_aload 142 0), (142, zm_getI 145 12 13), (145, zm_call 148 228 1 true 99), (148, zm_call 151 255 2 false 12), (151, zm_aload 152 0), (152, zm_getI 155 12 14), (155, zm_push 156 (-1)), (156, zm_iceq 159 170), (159, zm_aload 160 0)]
theorem zmc_254_4 (l : Launch) : zAll l "ChessWireModel" prog_14_method_65_code 7 false (none) zcl_254_4 :=
  zA_c (zOk_fl zn_quo (zs_idiv (by decide +kernel))) <|
  zA_c (zOk_sn zn_putI (zs_putI (k := 17) rfl (by decide) (by decide +kernel) rfl rfl (by decide +kernel) zw_1196)) <|
  zA_c (zOk_fl zn_aload (zs_aload_n (q := 0) rfl (by decide +kernel))) <|
  zA_c (zOk_fl zn_getI (zs_getI (k := 13) rfl (by decide) (by decide +kernel) rfl (by decide +kernel) zw_1192)) <|
  zA_c (zOk_fl zn_push (zs_iconst (n := (-1)) (by decide +kernel) rfl)) <|
  zA_c (zOk_fl zn_iceq (zs_iceq (off := 14) (by decide +kernel) (by decide))) <|
  zA_c (zOk_fl zn_aload (zs_aload_n (q := 0) rfl (by decide +kernel))) <|
  zA_c (zOk_fl zn_aload (zs_aload_n (q := 0) rfl (by decide +kernel))) <|
  zA_c (zOk_fl zn_getI (zs_getI (k := 13) rfl (by decide) (by decide +kernel) rfl (by decide +kernel) zw_1192)) <|
  zA_c (zk_S zq_228 zw_1396 (by decide +kernel)) <|
  zA_c (zk_V zq_255 zw_1501 rfl (by decide +kernel)) <|
  zA_c (zOk_fl zn_aload (zs_aload_n (q := 0) rfl (by decide +kernel))) <|
  zA_c (zOk_fl zn_getI (zs_getI (k := 14) rfl (by decide) (by decide +kernel) rfl (by decide +kernel) zw_1193)) <|
  zA_c (zOk_fl zn_push (zs_iconst (n := (-1)) (by decide +kernel) rfl)) <|
  zA_c (zOk_fl zn_iceq (zs_iceq (off := 14) (by decide +kernel) (by decide))) <|
  zA_c (zOk_fl zn_aload (zs_aload_n (q := 0) rfl (by decide +kernel))) <|
  zA_n
def zcl_254_5 : List (Nat × zmI) := [(160, zm_push 162 97), (162, zm_aload 163 0), (163, zm_getI 166 12 14), (166, zm_bin 167 (fun x y => w32 (x + y))), (167, zm_call 170 255 2 false 12), (170, zm_aload 171 0), (171, zm_getI 174 12 15), (174, zm_push 175 (-1)), (175, zm_iceq 178 189), (178, zm_aload 179 0), (179, zm_push 181 49), (181, zm_aload 182 0), (182, zm_getI 185 12 15), (185, zm_bin 186 (fun x y => w32 (x + y))), (186, zm_call 189 255 2 false 12), (189, zm_aload 190 0), (190, zm_getI 193 12 16)]
theorem zmc_254_5 (l : Launch) : zAll l "ChessWireModel" prog_14_method_65_code 7 false (none) zcl_254_5 :=
  zA_c (zOk_fl zn_push (zs_bipush (n := 97) (by decide +kernel) rfl)) <|
  zA_c (zOk_fl zn_aload (zs_aload_n (q := 0) rfl (by decide +kernel))) <|
  zA_c (zOk_fl zn_getI (zs_getI (k := 14) rfl (by decide) (by decide +kernel) rfl (by decide +kernel) zw_1193)) <|
  zA_c (zOk_fl zn_bin (zs_iadd (by decide +kernel))) <|
  zA_c (zk_V zq_255 zw_1501 rfl (by decide +kernel)) <|
  zA_c (zOk_fl zn_aload (zs_aload_n (q := 0) rfl (by decide +kernel))) <|
  zA_c (zOk_fl zn_getI (zs_getI (k := 15) rfl (by decide) (by decide +kernel) rfl (by decide +kernel) zw_1194)) <|
  zA_c (zOk_fl zn_push (zs_iconst (n := (-1)) (by decide +kernel) rfl)) <|
  zA_c (zOk_fl zn_iceq (zs_iceq (off := 14) (by decide +kernel) (by decide))) <|
  zA_c (zOk_fl zn_aload (zs_aload_n (q := 0) rfl (by decide +kernel))) <|
  zA_c (zOk_fl zn_push (zs_bipush (n := 49) (by decide +kernel) rfl)) <|
  zA_c (zOk_fl zn_aload (zs_aload_n (q := 0) rfl (by decide +kernel))) <|
  zA_c (zOk_fl zn_getI (zs_getI (k := 15) rfl (by decide) (by decide +kernel) rfl (by decide +kernel) zw_1194)) <|
  zA_c (zOk_fl zn_bin (zs_iadd (by decide +kernel))) <|
  zA_c (zk_V zq_255 zw_1501 rfl (by decide +kernel)) <|
  zA_c (zOk_fl zn_aload (zs_aload_n (q := 0) rfl (by decide +kernel))) <|
  zA_c (zOk_fl zn_getI (zs_getI (k := 16) rfl (by decide) (by decide +kernel) rfl (by decide +kernel) zw_1195)) <|
  zA_n
def zcl_254_6 : List (Nat × zmI) := [(193, zm_push 194 (-1)), (194, zm_iceq 197 208), (197, zm_aload 198 0), (198, zm_push 200 97), (200, zm_aload 201 0), (201, zm_getI 204 12 16), (204, zm_bin 205 (fun x y => w32 (x + y))), (205, zm_call 208 255 2 false 12), (208, zm_aload 209 0), (209, zm_getI 212 12 17), (212, zm_push 213 (-1)), (213, zm_iceq 216 227), (216, zm_aload 217 0), (217, zm_push 219 49), (219, zm_aload 220 0), (220, zm_getI 223 12 17), (223, zm_bin 224 (fun x y => w32 (x + y)))]
theorem zmc_254_6 (l : Launch) : zAll l "ChessWireModel" prog_14_method_65_code 7 false (none) zcl_254_6 :=
  zA_c (zOk_fl zn_push (zs_iconst (n := (-1)) (by decide +kernel) rfl)) <|
  zA_c (zOk_fl zn_iceq (zs_iceq (off := 14) (by decide +kernel) (by decide))) <|
  zA_c (zOk_fl zn_aload (zs_aload_n (q := 0) rfl (by decide +kernel))) <|
  zA_c (zOk_fl zn_push (zs_bipush (n := 97) (by decide +kernel) rfl)) <|
  zA_c (zOk_fl zn_aload (zs_aload_n (q := 0) rfl (by decide +kernel))) <|
  zA_c (zOk_fl zn_getI (zs_getI (k := 16) rfl (by decide) (by decide +kernel) rfl (by decide +kernel) zw_1195)) <|
  zA_c (zOk_fl zn_bin (zs_iadd (by decide +kernel))) <|
  zA_c (zk_V zq_255 zw_1501 rfl (by decide +kernel)) <|
  zA_c (zOk_fl zn_aload (zs_aload_n (q := 0) rfl (by decide +kernel))) <|
  zA_c (zOk_fl zn_getI (zs_getI (k := 17) rfl (by decide) (by decide +kernel) rfl (by decide +kernel) zw_1196)) <|
  zA_c (zOk_fl zn_push (zs_iconst (n := (-1)) (by decide +kernel) rfl)) <|
  zA_c (zOk_fl zn_iceq (zs_iceq (off := 14) (by decide +kernel) (by decide))) <|
  zA_c (zOk_fl zn_aload (zs_aload_n (q := 0) rfl (by decide +kernel))) <|
  zA_c (zOk_fl zn_push (zs_bipush (n := 49) (by decide +kernel) rfl)) <|
  zA_c (zOk_fl zn_aload (zs_aload_n (q := 0) rfl (by decide +kernel))) <|
  zA_c (zOk_fl zn_getI (zs_getI (k := 17) rfl (by decide) (by decide +kernel) rfl (by decide +kernel) zw_1196)) <|
  zA_c (zOk_fl zn_bin (zs_iadd (by decide +kernel))) <|
  zA_n
def zcl_254_7 : List (Nat × zmI) := [(224, zm_call 227 255 2 false 12), (227, zm_vret)]
theorem zmc_254_7 (l : Launch) : zAll l "ChessWireModel" prog_14_method_65_code 7 false (none) zcl_254_7 :=
  zA_c (zk_V zq_255 zw_1501 rfl (by decide +kernel)) <|
  zA_c (zs_vret (by decide +kernel) rfl) <|
  zA_n
def zc_254 : Nat → zmI := zgetC [zcl_254_0, zcl_254_1, zcl_254_2, zcl_254_3, zcl_254_4, zcl_254_5, zcl_254_6, zcl_254_7]
theorem zmf_254 (l : Launch) : zMf l zc_254 254 := ⟨by decide +kernel, false, (fun h => by cases h), fun pc => zgetC_ok (zA2_c (zmc_254_0 l) (zA2_c (zmc_254_1 l) (zA2_c (zmc_254_2 l) (zA2_c (zmc_254_3 l) (zA2_c (zmc_254_4 l) (zA2_c (zmc_254_5 l) (zA2_c (zmc_254_6 l) (zA2_c (zmc_254_7 l) (zA2_n))))))))) pc⟩
def zcl_255_0 : List (Nat × zmI) := [(0, zm_aload 1 0), (1, zm_getR 4 12 20), (4, zm_aload 5 0), (5, zm_getI 8 12 21), (8, zm_iload 9 1), (9, zm_iast 10), (10, zm_aload 11 0), (11, zm_dup 12), (12, zm_getI 15 12 21), (15, zm_push 16 1), (16, zm_bin 17 (fun x y => w32 (x + y))), (17, zm_putI 20 12 21), (20, zm_vret)]
theorem zmc_255_0 (l : Launch) : zAll l "ChessWireModel" prog_14_method_64_code 2 false (none) zcl_255_0 :=
  zA_c (zOk_fl zn_aload (zs_aload_n (q := 0) rfl (by decide +kernel))) <|
  zA_c (zOk_fl zn_getR (zs_getR (k := 20) rfl (by decide) (by decide +kernel) rfl (by decide +kernel) zw_1199)) <|
  zA_c (zOk_fl zn_aload (zs_aload_n (q := 0) rfl (by decide +kernel))) <|
  zA_c (zOk_fl zn_getI (zs_getI (k := 21) rfl (by decide) (by decide +kernel) rfl (by decide +kernel) zw_1200)) <|
  zA_c (zOk_fl zn_iload (zs_iload_n (q := 1) rfl (by decide +kernel))) <|
  zA_c (zOk_sn zn_iast (zs_iast (by decide +kernel))) <|
  zA_c (zOk_fl zn_aload (zs_aload_n (q := 0) rfl (by decide +kernel))) <|
  zA_c (zOk_fl zn_dup (zs_dup (by decide +kernel))) <|
  zA_c (zOk_fl zn_getI (zs_getI (k := 21) rfl (by decide) (by decide +kernel) rfl (by decide +kernel) zw_1200)) <|
  zA_c (zOk_fl zn_push (zs_iconst (n := 1) (by decide +kernel) rfl)) <|
  zA_c (zOk_fl zn_bin (zs_iadd (by decide +kernel))) <|
  zA_c (zOk_sn zn_putI (zs_putI (k := 21) rfl (by decide) (by decide +kernel) rfl rfl (by decide +kernel) zw_1200)) <|
  zA_c (zs_vret (by decide +kernel) rfl) <|
  zA_n
def zc_255 : Nat → zmI := zgetC [zcl_255_0]
theorem zmf_255 (l : Launch) : zMf l zc_255 255 := ⟨by decide +kernel, false, (fun h => by cases h), fun pc => zgetC_ok (zA2_c (zmc_255_0 l) (zA2_n)) pc⟩
def zcl_256_0 : List (Nat × zmI) := [(0, zm_aload 1 0), (1, zm_getI 4 12 21), (4, zm_aload 5 0), (5, zm_getI 8 12 19), (8, zm_iceq 11 28), (11, zm_aload 12 0), (12, zm_getI 15 12 21), (15, zm_aload 16 0), (16, zm_getI 19 12 19), (19, zm_icge 22 26), (22, zm_push 23 1), (23, zm_goto 27), (26, zm_push 27 0), (27, zm_zret), (28, zm_push 29 0), (29, zm_istore 30 1), (30, zm_iload 31 1), (31, zm_aload 32 0)]
theorem zmc_256_0 (l : Launch) : zAll l "ChessWireModel" prog_14_method_66_code 2 false (some .boolean) zcl_256_0 :=
  zA_c (zOk_fl zn_aload (zs_aload_n (q := 0) rfl (by decide +kernel))) <|
  zA_c (zOk_fl zn_getI (zs_getI (k := 21) rfl (by decide) (by decide +kernel) rfl (by decide +kernel) zw_1200)) <|
  zA_c (zOk_fl zn_aload (zs_aload_n (q := 0) rfl (by decide +kernel))) <|
  zA_c (zOk_fl zn_getI (zs_getI (k := 19) rfl (by decide) (by decide +kernel) rfl (by decide +kernel) zw_1198)) <|
  zA_c (zOk_fl zn_iceq (zs_iceq (off := 20) (by decide +kernel) (by decide))) <|
  zA_c (zOk_fl zn_aload (zs_aload_n (q := 0) rfl (by decide +kernel))) <|
  zA_c (zOk_fl zn_getI (zs_getI (k := 21) rfl (by decide) (by decide +kernel) rfl (by decide +kernel) zw_1200)) <|
  zA_c (zOk_fl zn_aload (zs_aload_n (q := 0) rfl (by decide +kernel))) <|
  zA_c (zOk_fl zn_getI (zs_getI (k := 19) rfl (by decide) (by decide +kernel) rfl (by decide +kernel) zw_1198)) <|
  zA_c (zOk_fl zn_icge (zs_icge (off := 7) (by decide +kernel) (by decide))) <|
  zA_c (zOk_fl zn_push (zs_iconst (n := 1) (by decide +kernel) rfl)) <|
  zA_c (zOk_fl zn_goto (zs_goto (off := 4) (by decide +kernel) (by decide))) <|
  zA_c (zOk_fl zn_push (zs_iconst (n := 0) (by decide +kernel) rfl)) <|
  zA_c (zs_zret (by decide +kernel) rfl) <|
  zA_c (zOk_fl zn_push (zs_iconst (n := 0) (by decide +kernel) rfl)) <|
  zA_c (zOk_fl zn_istore (zs_istore_n (q := 1) rfl (by decide +kernel))) <|
  zA_c (zOk_fl zn_iload (zs_iload_n (q := 1) rfl (by decide +kernel))) <|
  zA_c (zOk_fl zn_aload (zs_aload_n (q := 0) rfl (by decide +kernel))) <|
  zA_n
def zcl_256_1 : List (Nat × zmI) := [(32, zm_getI 35 12 21), (35, zm_icge 38 80), (38, zm_aload 39 0), (39, zm_getR 42 12 20), (42, zm_iload 43 1), (43, zm_ald 44 100), (44, zm_aload 45 0), (45, zm_getR 48 12 18), (48, zm_iload 49 1), (49, zm_ald 50 100), (50, zm_iceq 53 74), (53, zm_aload 54 0), (54, zm_getR 57 12 20), (57, zm_iload 58 1), (58, zm_ald 59 100), (59, zm_aload 60 0), (60, zm_getR 63 12 18), (63, zm_iload 64 1)]
theorem zmc_256_1 (l : Launch) : zAll l "ChessWireModel" prog_14_method_66_code 2 false (some .boolean) zcl_256_1 :=
  zA_c (zOk_fl zn_getI (zs_getI (k := 21) rfl (by decide) (by decide +kernel) rfl (by decide +kernel) zw_1200)) <|
  zA_c (zOk_fl zn_icge (zs_icge (off := 45) (by decide +kernel) (by decide))) <|
  zA_c (zOk_fl zn_aload (zs_aload_n (q := 0) rfl (by decide +kernel))) <|
  zA_c (zOk_fl zn_getR (zs_getR (k := 20) rfl (by decide) (by decide +kernel) rfl (by decide +kernel) zw_1199)) <|
  zA_c (zOk_fl zn_iload (zs_iload_n (q := 1) rfl (by decide +kernel))) <|
  zA_c (zOk_fl zn_ald (zs_iald (by decide +kernel))) <|
  zA_c (zOk_fl zn_aload (zs_aload_n (q := 0) rfl (by decide +kernel))) <|
  zA_c (zOk_fl zn_getR (zs_getR (k := 18) rfl (by decide) (by decide +kernel) rfl (by decide +kernel) zw_1197)) <|
  zA_c (zOk_fl zn_iload (zs_iload_n (q := 1) rfl (by decide +kernel))) <|
  zA_c (zOk_fl zn_ald (zs_iald (by decide +kernel))) <|
  zA_c (zOk_fl zn_iceq (zs_iceq (off := 24) (by decide +kernel) (by decide))) <|
  zA_c (zOk_fl zn_aload (zs_aload_n (q := 0) rfl (by decide +kernel))) <|
  zA_c (zOk_fl zn_getR (zs_getR (k := 20) rfl (by decide) (by decide +kernel) rfl (by decide +kernel) zw_1199)) <|
  zA_c (zOk_fl zn_iload (zs_iload_n (q := 1) rfl (by decide +kernel))) <|
  zA_c (zOk_fl zn_ald (zs_iald (by decide +kernel))) <|
  zA_c (zOk_fl zn_aload (zs_aload_n (q := 0) rfl (by decide +kernel))) <|
  zA_c (zOk_fl zn_getR (zs_getR (k := 18) rfl (by decide) (by decide +kernel) rfl (by decide +kernel) zw_1197)) <|
  zA_c (zOk_fl zn_iload (zs_iload_n (q := 1) rfl (by decide +kernel))) <|
  zA_n
def zcl_256_2 : List (Nat × zmI) := [(64, zm_ald 65 100), (65, zm_icge 68 72), (68, zm_push 69 1), (69, zm_goto 73), (72, zm_push 73 0), (73, zm_zret), (74, zm_iinc 77 1 1), (77, zm_goto 30), (80, zm_push 81 0), (81, zm_zret)]
theorem zmc_256_2 (l : Launch) : zAll l "ChessWireModel" prog_14_method_66_code 2 false (some .boolean) zcl_256_2 :=
  zA_c (zOk_fl zn_ald (zs_iald (by decide +kernel))) <|
  zA_c (zOk_fl zn_icge (zs_icge (off := 7) (by decide +kernel) (by decide))) <|
  zA_c (zOk_fl zn_push (zs_iconst (n := 1) (by decide +kernel) rfl)) <|
  zA_c (zOk_fl zn_goto (zs_goto (off := 4) (by decide +kernel) (by decide))) <|
  zA_c (zOk_fl zn_push (zs_iconst (n := 0) (by decide +kernel) rfl)) <|
  zA_c (zs_zret (by decide +kernel) rfl) <|
  zA_c (zOk_fl zn_iinc (zs_iinc rfl (by decide +kernel))) <|
  zA_c (zOk_fl zn_goto (zs_goto (off := (-47)) (by decide +kernel) (by decide))) <|
  zA_c (zOk_fl zn_push (zs_iconst (n := 0) (by decide +kernel) rfl)) <|
  zA_c (zs_zret (by decide +kernel) rfl) <|
  zA_n
def zc_256 : Nat → zmI := zgetC [zcl_256_0, zcl_256_1, zcl_256_2]
theorem zmf_256 (l : Launch) : zMf l zc_256 256 := ⟨by decide +kernel, false, (fun h => by cases h), fun pc => zgetC_ok (zA2_c (zmc_256_0 l) (zA2_c (zmc_256_1 l) (zA2_c (zmc_256_2 l) (zA2_n)))) pc⟩
def zcl_257_0 : List (Nat × zmI) := [(0, zm_push 1 0), (1, zm_istore 2 2), (2, zm_push 3 0), (3, zm_istore 4 3), (4, zm_iload 5 3), (5, zm_aload 6 0), (6, zm_getR 9 12 12), (9, zm_iload 10 1), (10, zm_ald 11 100), (11, zm_icge 14 48), (14, zm_iload 15 2), (15, zm_aload 16 0), (16, zm_iload 17 1), (17, zm_aload 18 0), (18, zm_getR 21 12 11), (21, zm_push 24 512), (24, zm_iload 25 1), (25, zm_bin 26 (fun x y => w32 (x * y))), (26, zm_iload 27 3), (27, zm_bin 28 (fun x y => w32 (x + y))), (28, zm_ald 29 100), (29, zm_call 32 258 3 true 12)]
theorem zmc_257_0 (l : Launch) : zAll l "ChessWireModel" prog_14_method_58_code 4 false (some .int) zcl_257_0 :=
  zA_c (zOk_fl zn_push (zs_iconst (n := 0) (by decide +kernel) rfl)) <|
  zA_c (zOk_fl zn_istore (zs_istore_n (q := 2) rfl (by decide +kernel))) <|
  zA_c (zOk_fl zn_push (zs_iconst (n := 0) (by decide +kernel) rfl)) <|
  zA_c (zOk_fl zn_istore (zs_istore_n (q := 3) rfl (by decide +kernel))) <|
  zA_c (zOk_fl zn_iload (zs_iload_n (q := 3) rfl (by decide +kernel))) <|
  zA_c (zOk_fl zn_aload (zs_aload_n (q := 0) rfl (by decide +kernel))) <|
  zA_c (zOk_fl zn_getR (zs_getR (k := 12) rfl (by decide) (by decide +kernel) rfl (by decide +kernel) zw_1191)) <|
  zA_c (zOk_fl zn_iload (zs_iload_n (q := 1) rfl (by decide +kernel))) <|
  zA_c (zOk_fl zn_ald (zs_iald (by decide +kernel))) <|
  zA_c (zOk_fl zn_icge (zs_icge (off := 37) (by decide +kernel) (by decide))) <|
  zA_c (zOk_fl zn_iload (zs_iload_n (q := 2) rfl (by decide +kernel))) <|
  zA_c (zOk_fl zn_aload (zs_aload_n (q := 0) rfl (by decide +kernel))) <|
  zA_c (zOk_fl zn_iload (zs_iload_n (q := 1) rfl (by decide +kernel))) <|
  zA_c (zOk_fl zn_aload (zs_aload_n (q := 0) rfl (by decide +kernel))) <|
  zA_c (zOk_fl zn_getR (zs_getR (k := 11) rfl (by decide) (by decide +kernel) rfl (by decide +kernel) zw_1190)) <|
  zA_c (zOk_fl zn_push (zs_sipush (n := 512) (by decide +kernel) rfl)) <|
  zA_c (zOk_fl zn_iload (zs_iload_n (q := 1) rfl (by decide +kernel))) <|
  zA_c (zOk_fl zn_bin (zs_imul (by decide +kernel))) <|
  zA_c (zOk_fl zn_iload (zs_iload_n (q := 3) rfl (by decide +kernel))) <|
  zA_c (zOk_fl zn_bin (zs_iadd (by decide +kernel))) <|
  zA_c (zOk_fl zn_ald (zs_iald (by decide +kernel))) <|
  zA_c (zk_V zq_258 zw_1513 rfl (by decide +kernel)) <|
  zA_n
def zcl_257_1 : List (Nat × zmI) := [(32, zm_ifeq 35 39), (35, zm_push 36 1), (36, zm_goto 40), (39, zm_push 40 0), (40, zm_bin 41 (fun x y => w32 (x + y))), (41, zm_istore 42 2), (42, zm_iinc 45 3 1), (45, zm_goto 4), (48, zm_iload 49 2), (49, zm_iret)]
theorem zmc_257_1 (l : Launch) : zAll l "ChessWireModel" prog_14_method_58_code 4 false (some .int) zcl_257_1 :=
  zA_c (zOk_fl zn_ifeq (zs_ifeq (off := 7) (by decide +kernel) (by decide))) <|
  zA_c (zOk_fl zn_push (zs_iconst (n := 1) (by decide +kernel) rfl)) <|
  zA_c (zOk_fl zn_goto (zs_goto (off := 4) (by decide +kernel) (by decide))) <|
  zA_c (zOk_fl zn_push (zs_iconst (n := 0) (by decide +kernel) rfl)) <|
  zA_c (zOk_fl zn_bin (zs_iadd (by decide +kernel))) <|
  zA_c (zOk_fl zn_istore (zs_istore_n (q := 2) rfl (by decide +kernel))) <|
  zA_c (zOk_fl zn_iinc (zs_iinc rfl (by decide +kernel))) <|
  zA_c (zOk_fl zn_goto (zs_goto (off := (-41)) (by decide +kernel) (by decide))) <|
  zA_c (zOk_fl zn_iload (zs_iload_n (q := 2) rfl (by decide +kernel))) <|
  zA_c (zs_iret (by decide +kernel) rfl) <|
  zA_n
def zc_257 : Nat → zmI := zgetC [zcl_257_0, zcl_257_1]
theorem zmf_257 (l : Launch) : zMf l zc_257 257 := ⟨by decide +kernel, false, (fun h => by cases h), fun pc => zgetC_ok (zA2_c (zmc_257_0 l) (zA2_c (zmc_257_1 l) (zA2_n))) pc⟩
def zcl_258_0 : List (Nat × zmI) := [(0, zm_iload 1 2), (1, zm_push 3 64), (3, zm_quo 4 z_div), (4, zm_istore 5 3), (5, zm_iload 6 2), (6, zm_push 8 64), (8, zm_quo 9 z_rem), (9, zm_istore 11 4), (11, zm_aload 12 0), (12, zm_getI 15 12 13), (15, zm_push 16 (-1)), (16, zm_iceq 19 40), (19, zm_aload 20 0), (20, zm_getR 23 12 8), (23, zm_push 25 64), (25, zm_iload 26 1), (26, zm_bin 27 (fun x y => w32 (x * y))), (27, zm_iload 28 3), (28, zm_bin 29 (fun x y => w32 (x + y))), (29, zm_ald 30 100), (30, zm_push 32 8)]
theorem zmc_258_0 (l : Launch) : zAll l "ChessWireModel" prog_14_method_57_code 7 false (some .boolean) zcl_258_0 :=
  zA_c (zOk_fl zn_iload (zs_iload_n (q := 2) rfl (by decide +kernel))) <|
  zA_c (zOk_fl zn_push (zs_bipush (n := 64) (by decide +kernel) rfl)) <|
  zA_c (zOk_fl zn_quo (zs_idiv (by decide +kernel))) <|
  zA_c (zOk_fl zn_istore (zs_istore_n (q := 3) rfl (by decide +kernel))) <|
  zA_c (zOk_fl zn_iload (zs_iload_n (q := 2) rfl (by decide +kernel))) <|
  zA_c (zOk_fl zn_push (zs_bipush (n := 64) (by decide +kernel) rfl)) <|
  zA_c (zOk_fl zn_quo (zs_irem (by decide +kernel))) <|
  zA_c (zOk_fl zn_istore (zs_istore (by decide +kernel))) <|
  zA_c (zOk_fl zn_aload (zs_aload_n (q := 0) rfl (by decide +kernel))) <|
  zA_c (zOk_fl zn_getI (zs_getI (k := 13) rfl (by decide) (by decide +kernel) rfl (by decide +kernel) zw_1192)) <|
  zA_c (zOk_fl zn_push (zs_iconst (n := (-1)) (by decide +kernel) rfl)) <|
  zA_c (zOk_fl zn_iceq (zs_iceq (off := 24) (by decide +kernel) (by decide))) <|
  zA_c (zOk_fl zn_aload (zs_aload_n (q := 0) rfl (by decide +kernel))) <|
  zA_c (zOk_fl zn_getR (zs_getR (k := 8) rfl (by decide) (by decide +kernel) rfl (by decide +kernel) zw_1187)) <|
  zA_c (zOk_fl zn_push (zs_bipush (n := 64) (by decide +kernel) rfl)) <|
  zA_c (zOk_fl zn_iload (zs_iload_n (q := 1) rfl (by decide +kernel))) <|
  zA_c (zOk_fl zn_bin (zs_imul (by decide +kernel))) <|
  zA_c (zOk_fl zn_iload (zs_iload_n (q := 3) rfl (by decide +kernel))) <|
  zA_c (zOk_fl zn_bin (zs_iadd (by decide +kernel))) <|
  zA_c (zOk_fl zn_ald (zs_iald (by decide +kernel))) <|
  zA_c (zOk_fl zn_push (zs_bipush (n := 8) (by decide +kernel) rfl)) <|
  zA_n
def zcl_258_1 : List (Nat × zmI) := [(32, zm_quo 33 z_rem), (33, zm_aload 34 0), (34, zm_getI 37 12 13), (37, zm_icne 40 44), (40, zm_push 41 1), (41, zm_goto 45), (44, zm_push 45 0), (45, zm_istore 47 5), (47, zm_aload 48 0), (48, zm_getI 51 12 14), (51, zm_push 52 (-1)), (52, zm_iceq 55 66), (55, zm_iload 56 3), (56, zm_push 58 8), (58, zm_quo 59 z_rem), (59, zm_aload 60 0), (60, zm_getI 63 12 14), (63, zm_icne 66 89)]
theorem zmc_258_1 (l : Launch) : zAll l "ChessWireModel" prog_14_method_57_code 7 false (some .boolean) zcl_258_1 :=
  zA_c (zOk_fl zn_quo (zs_irem (by decide +kernel))) <|
  zA_c (zOk_fl zn_aload (zs_aload_n (q := 0) rfl (by decide +kernel))) <|
  zA_c (zOk_fl zn_getI (zs_getI (k := 13) rfl (by decide) (by decide +kernel) rfl (by decide +kernel) zw_1192)) <|
  zA_c (zOk_fl zn_icne (zs_icne (off := 7) (by decide +kernel) (by decide))) <|
  zA_c (zOk_fl zn_push (zs_iconst (n := 1) (by decide +kernel) rfl)) <|
  zA_c (zOk_fl zn_goto (zs_goto (off := 4) (by decide +kernel) (by decide))) <|
  zA_c (zOk_fl zn_push (zs_iconst (n := 0) (by decide +kernel) rfl)) <|
  zA_c (zOk_fl zn_istore (zs_istore (by decide +kernel))) <|
  zA_c (zOk_fl zn_aload (zs_aload_n (q := 0) rfl (by decide +kernel))) <|
  zA_c (zOk_fl zn_getI (zs_getI (k := 14) rfl (by decide) (by decide +kernel) rfl (by decide +kernel) zw_1193)) <|
  zA_c (zOk_fl zn_push (zs_iconst (n := (-1)) (by decide +kernel) rfl)) <|
  zA_c (zOk_fl zn_iceq (zs_iceq (off := 14) (by decide +kernel) (by decide))) <|
  zA_c (zOk_fl zn_iload (zs_iload_n (q := 3) rfl (by decide +kernel))) <|
  zA_c (zOk_fl zn_push (zs_bipush (n := 8) (by decide +kernel) rfl)) <|
  zA_c (zOk_fl zn_quo (zs_irem (by decide +kernel))) <|
  zA_c (zOk_fl zn_aload (zs_aload_n (q := 0) rfl (by decide +kernel))) <|
  zA_c (zOk_fl zn_getI (zs_getI (k := 14) rfl (by decide) (by decide +kernel) rfl (by decide +kernel) zw_1193)) <|
  zA_c (zOk_fl zn_icne (zs_icne (off := 26) (by decide +kernel) (by decide))) <|
  zA_n
def zcl_258_2 : List (Nat × zmI) := [(66, zm_aload 67 0), (67, zm_getI 70 12 15), (70, zm_push 71 (-1)), (71, zm_iceq 74 85), (74, zm_iload 75 3), (75, zm_push 77 8), (77, zm_quo 78 z_div), (78, zm_aload 79 0), (79, zm_getI 82 12 15), (82, zm_icne 85 89), (85, zm_push 86 1), (86, zm_goto 90), (89, zm_push 90 0), (90, zm_istore 92 6), (92, zm_iload 94 5), (94, zm_ifeq 97 146)]
theorem zmc_258_2 (l : Launch) : zAll l "ChessWireModel" prog_14_method_57_code 7 false (some .boolean) zcl_258_2 :=
  zA_c (zOk_fl zn_aload (zs_aload_n (q := 0) rfl (by decide +kernel))) <|
  zA_c (zOk_fl zn_getI (zs_getI (k := 15) rfl (by decide) (by decide +kernel) rfl (by decide +kernel) zw_1194)) <|
  zA_c (zOk_fl zn_push (zs_iconst (n := (-1)) (by decide +kernel) rfl)) <|
  zA_c (zOk_fl zn_iceq (zs_iceq (off := 14) (by decide +kernel) (by decide))) <|
  zA_c (zOk_fl zn_iload (zs_iload_n (q := 3) rfl (by decide +kernel))) <|
  zA_c (zOk_fl zn_push (zs_bipush (n := 8) (by decide +kernel) rfl)) <|
  zA_c (zOk_fl zn_quo (zs_idiv (by decide +kernel))) <|
  zA_c (zOk_fl zn_aload (zs_aload_n (q := 0) rfl (by decide +kernel))) <|
  zA_c (zOk_fl zn_getI (zs_getI (k := 15) rfl (by decide) (by decide +kernel) rfl (by decide +kernel) zw_1194)) <|
  zA_c (zOk_fl zn_icne (zs_icne (off := 7) (by decide +kernel) (by decide))) <|
  zA_c (zOk_fl zn_push (zs_iconst (n := 1) (by decide +kernel) rfl)) <|
  zA_c (zOk_fl zn_goto (zs_goto (off := 4) (by decide +kernel) (by decide))) <|
  zA_c (zOk_fl zn_push (zs_iconst (n := 0) (by decide +kernel) rfl)) <|
  zA_c (zOk_fl zn_istore (zs_istore (by decide +kernel))) <|
  zA_c (zOk_fl zn_iload (zs_iload (by decide +kernel))) <|
  zA_c (zOk_fl zn_ifeq (zs_ifeq (off := 52) (by decide +kernel) (by decide))) <|
  zA_n
def zcl_258_3 : List (Nat × zmI) := [(97, zm_iload 99 6), (99, zm_ifeq 102 146), (102, zm_aload 103 0), (103, zm_getI 106 12 16), (106, zm_push 107 (-1)), (107, zm_iceq 110 122), (110, zm_iload 112 4), (112, zm_push 114 8), (114, zm_quo 115 z_rem), (115, zm_aload 116 0), (116, zm_getI 119 12 16), (119, zm_icne 122 146), (122, zm_aload 123 0), (123, zm_getI 126 12 17), (126, zm_push 127 (-1)), (127, zm_iceq 130 142)]
theorem zmc_258_3 (l : Launch) : zAll l "ChessWireModel" prog_14_method_57_code 7 false (some .boolean) zcl_258_3 :=
  zA_c (zOk_fl zn_iload (zs_iload (by decide +kernel))) <|
  zA_c (zOk_fl zn_ifeq (zs_ifeq (off := 47) (by decide +kernel) (by decide))) <|
  zA_c (zOk_fl zn_aload (zs_aload_n (q := 0) rfl (by decide +kernel))) <|
  zA_c (zOk_fl zn_getI (zs_getI (k := 16) rfl (by decide) (by decide +kernel) rfl (by decide +kernel) zw_1195)) <|
  zA_c (zOk_fl zn_push (zs_iconst (n := (-1)) (by decide +kernel) rfl)) <|
  zA_c (zOk_fl zn_iceq (zs_iceq (off := 15) (by decide +kernel) (by decide))) <|
  zA_c (zOk_fl zn_iload (zs_iload (by decide +kernel))) <|
  zA_c (zOk_fl zn_push (zs_bipush (n := 8) (by decide +kernel) rfl)) <|
  zA_c (zOk_fl zn_quo (zs_irem (by decide +kernel))) <|
  zA_c (zOk_fl zn_aload (zs_aload_n (q := 0) rfl (by decide +kernel))) <|
  zA_c (zOk_fl zn_getI (zs_getI (k := 16) rfl (by decide) (by decide +kernel) rfl (by decide +kernel) zw_1195)) <|
  zA_c (zOk_fl zn_icne (zs_icne (off := 27) (by decide +kernel) (by decide))) <|
  zA_c (zOk_fl zn_aload (zs_aload_n (q := 0) rfl (by decide +kernel))) <|
  zA_c (zOk_fl zn_getI (zs_getI (k := 17) rfl (by decide) (by decide +kernel) rfl (by decide +kernel) zw_1196)) <|
  zA_c (zOk_fl zn_push (zs_iconst (n := (-1)) (by decide +kernel) rfl)) <|
  zA_c (zOk_fl zn_iceq (zs_iceq (off := 15) (by decide +kernel) (by decide))) <|
  zA_n
def zcl_258_4 : List (Nat × zmI) := [(130, zm_iload 132 4), (132, zm_push 134 8), (134, zm_quo 135 z_div), (135, zm_aload 136 0), (136, zm_getI 139 12 17), (139, zm_icne 142 146), (142, zm_push 143 1), (143, zm_goto 147), (146, zm_push 147 0), (147, zm_zret)]
theorem zmc_258_4 (l : Launch) : zAll l "ChessWireModel" prog_14_method_57_code 7 false (some .boolean) zcl_258_4 :=
  zA_c (zOk_fl zn_iload (zs_iload (by decide +kernel))) <|
  zA_c (zOk_fl zn_push (zs_bipush (n := 8) (by decide +kernel) rfl)) <|
  zA_c (zOk_fl zn_quo (zs_idiv (by decide +kernel))) <|
  zA_c (zOk_fl zn_aload (zs_aload_n (q := 0) rfl (by decide +kernel))) <|
  zA_c (zOk_fl zn_getI (zs_getI (k := 17) rfl (by decide) (by decide +kernel) rfl (by decide +kernel) zw_1196)) <|
  zA_c (zOk_fl zn_icne (zs_icne (off := 7) (by decide +kernel) (by decide))) <|
  zA_c (zOk_fl zn_push (zs_iconst (n := 1) (by decide +kernel) rfl)) <|
  zA_c (zOk_fl zn_goto (zs_goto (off := 4) (by decide +kernel) (by decide))) <|
  zA_c (zOk_fl zn_push (zs_iconst (n := 0) (by decide +kernel) rfl)) <|
  zA_c (zs_zret (by decide +kernel) rfl) <|
  zA_n
def zc_258 : Nat → zmI := zgetC [zcl_258_0, zcl_258_1, zcl_258_2, zcl_258_3, zcl_258_4]
theorem zmf_258 (l : Launch) : zMf l zc_258 258 := ⟨by decide +kernel, false, (fun h => by cases h), fun pc => zgetC_ok (zA2_c (zmc_258_0 l) (zA2_c (zmc_258_1 l) (zA2_c (zmc_258_2 l) (zA2_c (zmc_258_3 l) (zA2_c (zmc_258_4 l) (zA2_n)))))) pc⟩
def zcl_259_0 : List (Nat × zmI) := [(0, zm_aload 1 0), (1, zm_call 4 260 1 true 12), (4, zm_iret)]
theorem zmc_259_0 (l : Launch) : zAll l "ChessWireModel" prog_14_method_71_code 1 false (some .int) zcl_259_0 :=
  zA_c (zOk_fl zn_aload (zs_aload_n (q := 0) rfl (by decide +kernel))) <|
  zA_c (zk_V zq_260 zw_1521 rfl (by decide +kernel)) <|
  zA_c (zs_iret (by decide +kernel) rfl) <|
  zA_n
def zc_259 : Nat → zmI := zgetC [zcl_259_0]
theorem zmf_259 (l : Launch) : zMf l zc_259 259 := ⟨by decide +kernel, false, (fun h => by cases h), fun pc => zgetC_ok (zA2_c (zmc_259_0 l) (zA2_n)) pc⟩
def zcl_260_0 : List (Nat × zmI) := [(0, zm_aload 1 0), (1, zm_push 2 0), (2, zm_call 5 232 2 false 12), (5, zm_push 6 0), (6, zm_istore 7 1), (7, zm_push 8 0), (8, zm_istore 9 2), (9, zm_iload 10 2), (10, zm_aload 11 0), (11, zm_getR 14 12 12), (14, zm_push 15 0), (15, zm_ald 16 100), (16, zm_icge 19 39), (19, zm_iload 20 1), (20, zm_aload 21 0), (21, zm_push 22 0), (22, zm_aload 23 0), (23, zm_getR 26 12 11), (26, zm_iload 27 2), (27, zm_ald 28 100), (28, zm_call 31 253 3 true 12), (31, zm_bin 32 (fun x y => w32 (x + y)))]
theorem zmc_260_0 (l : Launch) : zAll l "ChessWireModel" prog_14_method_70_code 3 false (some .int) zcl_260_0 :=
  zA_c (zOk_fl zn_aload (zs_aload_n (q := 0) rfl (by decide +kernel))) <|
  zA_c (zOk_fl zn_push (zs_iconst (n := 0) (by decide +kernel) rfl)) <|
  zA_c (zk_V zq_232 zw_1411 rfl (by decide +kernel)) <|
  zA_c (zOk_fl zn_push (zs_iconst (n := 0) (by decide +kernel) rfl)) <|
  zA_c (zOk_fl zn_istore (zs_istore_n (q := 1) rfl (by decide +kernel))) <|
  zA_c (zOk_fl zn_push (zs_iconst (n := 0) (by decide +kernel) rfl)) <|
  zA_c (zOk_fl zn_istore (zs_istore_n (q := 2) rfl (by decide +kernel))) <|
  zA_c (zOk_fl zn_iload (zs_iload_n (q := 2) rfl (by decide +kernel))) <|
  zA_c (zOk_fl zn_aload (zs_aload_n (q := 0) rfl (by decide +kernel))) <|
  zA_c (zOk_fl zn_getR (zs_getR (k := 12) rfl (by decide) (by decide +kernel) rfl (by decide +kernel) zw_1191)) <|
  zA_c (zOk_fl zn_push (zs_iconst (n := 0) (by decide +kernel) rfl)) <|
  zA_c (zOk_fl zn_ald (zs_iald (by decide +kernel))) <|
  zA_c (zOk_fl zn_icge (zs_icge (off := 23) (by decide +kernel) (by decide))) <|
  zA_c (zOk_fl zn_iload (zs_iload_n (q := 1) rfl (by decide +kernel))) <|
  zA_c (zOk_fl zn_aload (zs_aload_n (q := 0) rfl (by decide +kernel))) <|
  zA_c (zOk_fl zn_push (zs_iconst (n := 0) (by decide +kernel) rfl)) <|
  zA_c (zOk_fl zn_aload (zs_aload_n (q := 0) rfl (by decide +kernel))) <|
  zA_c (zOk_fl zn_getR (zs_getR (k := 11) rfl (by decide) (by decide +kernel) rfl (by decide +kernel) zw_1190)) <|
  zA_c (zOk_fl zn_iload (zs_iload_n (q := 2) rfl (by decide +kernel))) <|
  zA_c (zOk_fl zn_ald (zs_iald (by decide +kernel))) <|
  zA_c (zk_V zq_253 zw_1493 rfl (by decide +kernel)) <|
  zA_c (zOk_fl zn_bin (zs_iadd (by decide +kernel))) <|
  zA_n
def zcl_260_1 : List (Nat × zmI) := [(32, zm_istore 33 1), (33, zm_iinc 36 2 1), (36, zm_goto 9), (39, zm_iload 40 1), (40, zm_iret)]
theorem zmc_260_1 (l : Launch) : zAll l "ChessWireModel" prog_14_method_70_code 3 false (some .int) zcl_260_1 :=
  zA_c (zOk_fl zn_istore (zs_istore_n (q := 1) rfl (by decide +kernel))) <|
  zA_c (zOk_fl zn_iinc (zs_iinc rfl (by decide +kernel))) <|
  zA_c (zOk_fl zn_goto (zs_goto (off := (-27)) (by decide +kernel) (by decide))) <|
  zA_c (zOk_fl zn_iload (zs_iload_n (q := 1) rfl (by decide +kernel))) <|
  zA_c (zs_iret (by decide +kernel) rfl) <|
  zA_n
def zc_260 : Nat → zmI := zgetC [zcl_260_0, zcl_260_1]
theorem zmf_260 (l : Launch) : zMf l zc_260 260 := ⟨by decide +kernel, false, (fun h => by cases h), fun pc => zgetC_ok (zA2_c (zmc_260_0 l) (zA2_c (zmc_260_1 l) (zA2_n))) pc⟩
def zcl_261_0 : List (Nat × zmI) := [(0, zm_iload 1 1), (1, zm_push 2 (-1)), (2, zm_iclt 5 13), (5, zm_aload 6 0), (6, zm_iload 7 1), (7, zm_call 10 262 2 true 12), (10, zm_goto 15), (13, zm_push 15 (-2)), (15, zm_iret)]
theorem zmc_261_0 (l : Launch) : zAll l "ChessWireModel" prog_14_method_73_code 2 false (some .int) zcl_261_0 :=
  zA_c (zOk_fl zn_iload (zs_iload_n (q := 1) rfl (by decide +kernel))) <|
  zA_c (zOk_fl zn_push (zs_iconst (n := (-1)) (by decide +kernel) rfl)) <|
  zA_c (zOk_fl zn_iclt (zs_iclt (off := 11) (by decide +kernel) (by decide))) <|
  zA_c (zOk_fl zn_aload (zs_aload_n (q := 0) rfl (by decide +kernel))) <|
  zA_c (zOk_fl zn_iload (zs_iload_n (q := 1) rfl (by decide +kernel))) <|
  zA_c (zk_V zq_262 zw_1529 rfl (by decide +kernel)) <|
  zA_c (zOk_fl zn_goto (zs_goto (off := 5) (by decide +kernel) (by decide))) <|
  zA_c (zOk_fl zn_push (zs_bipush (n := (-2)) (by decide +kernel) rfl)) <|
  zA_c (zs_iret (by decide +kernel) rfl) <|
  zA_n
def zc_261 : Nat → zmI := zgetC [zcl_261_0]
theorem zmf_261 (l : Launch) : zMf l zc_261 261 := ⟨by decide +kernel, false, (fun h => by cases h), fun pc => zgetC_ok (zA2_c (zmc_261_0 l) (zA2_n)) pc⟩
def zcl_262_0 : List (Nat × zmI) := [(0, zm_aload 1 0), (1, zm_push 2 0), (2, zm_call 5 232 2 false 12), (5, zm_aload 6 0), (6, zm_call 9 218 1 true 12), (9, zm_push 10 (-1)), (10, zm_iceq 13 24), (13, zm_iload 14 1), (14, zm_push 15 (-1)), (15, zm_icne 18 22), (18, zm_push 19 0), (19, zm_goto 23), (22, zm_push 23 (-1)), (23, zm_iret), (24, zm_push 25 0), (25, zm_istore 26 2), (26, zm_push 27 0), (27, zm_istore 28 3), (28, zm_iload 29 3), (29, zm_aload 30 0), (30, zm_getR 33 12 12)]
theorem zmc_262_0 (l : Launch) : zAll l "ChessWireModel" prog_14_method_72_code 4 false (some .int) zcl_262_0 :=
  zA_c (zOk_fl zn_aload (zs_aload_n (q := 0) rfl (by decide +kernel))) <|
  zA_c (zOk_fl zn_push (zs_iconst (n := 0) (by decide +kernel) rfl)) <|
  zA_c (zk_V zq_232 zw_1411 rfl (by decide +kernel)) <|
  zA_c (zOk_fl zn_aload (zs_aload_n (q := 0) rfl (by decide +kernel))) <|
  zA_c (zk_V zq_218 zw_1356 rfl (by decide +kernel)) <|
  zA_c (zOk_fl zn_push (zs_iconst (n := (-1)) (by decide +kernel) rfl)) <|
  zA_c (zOk_fl zn_iceq (zs_iceq (off := 14) (by decide +kernel) (by decide))) <|
  zA_c (zOk_fl zn_iload (zs_iload_n (q := 1) rfl (by decide +kernel))) <|
  zA_c (zOk_fl zn_push (zs_iconst (n := (-1)) (by decide +kernel) rfl)) <|
  zA_c (zOk_fl zn_icne (zs_icne (off := 7) (by decide +kernel) (by decide))) <|
  zA_c (zOk_fl zn_push (zs_iconst (n := 0) (by decide +kernel) rfl)) <|
  zA_c (zOk_fl zn_goto (zs_goto (off := 4) (by decide +kernel) (by decide))) <|
  zA_c (zOk_fl zn_push (zs_iconst (n := (-1)) (by decide +kernel) rfl)) <|
  zA_c (zs_iret (by decide +kernel) rfl) <|
  zA_c (zOk_fl zn_push (zs_iconst (n := 0) (by decide +kernel) rfl)) <|
  zA_c (zOk_fl zn_istore (zs_istore_n (q := 2) rfl (by decide +kernel))) <|
  zA_c (zOk_fl zn_push (zs_iconst (n := 0) (by decide +kernel) rfl)) <|
  zA_c (zOk_fl zn_istore (zs_istore_n (q := 3) rfl (by decide +kernel))) <|
  zA_c (zOk_fl zn_iload (zs_iload_n (q := 3) rfl (by decide +kernel))) <|
  zA_c (zOk_fl zn_aload (zs_aload_n (q := 0) rfl (by decide +kernel))) <|
  zA_c (zOk_fl zn_getR (zs_getR (k := 12) rfl (by decide) (by decide +kernel) rfl (by decide +kernel) zw_1191)) <|
  zA_n
def zcl_262_1 : List (Nat × zmI) := [(33, zm_push 34 0), (34, zm_ald 35 100), (35, zm_icge 38 73), (38, zm_aload 39 0), (39, zm_push 40 0), (40, zm_aload 41 0), (41, zm_getR 44 12 11), (44, zm_iload 45 3), (45, zm_ald 46 100), (46, zm_call 49 258 3 true 12), (49, zm_ifeq 52 67), (52, zm_iload 53 2), (53, zm_iload 54 1), (54, zm_icne 57 64), (57, zm_aload 58 0), (58, zm_getR 61 12 11), (61, zm_iload 62 3), (62, zm_ald 63 100), (63, zm_iret)]
theorem zmc_262_1 (l : Launch) : zAll l "ChessWireModel" prog_14_method_72_code 4 false (some .int) zcl_262_1 :=
  zA_c (zOk_fl zn_push (zs_iconst (n := 0) (by decide +kernel) rfl)) <|
  zA_c (zOk_fl zn_ald (zs_iald (by decide +kernel))) <|
  zA_c (zOk_fl zn_icge (zs_icge (off := 38) (by decide +kernel) (by decide))) <|
  zA_c (zOk_fl zn_aload (zs_aload_n (q := 0) rfl (by decide +kernel))) <|
  zA_c (zOk_fl zn_push (zs_iconst (n := 0) (by decide +kernel) rfl)) <|
  zA_c (zOk_fl zn_aload (zs_aload_n (q := 0) rfl (by decide +kernel))) <|
  zA_c (zOk_fl zn_getR (zs_getR (k := 11) rfl (by decide) (by decide +kernel) rfl (by decide +kernel) zw_1190)) <|
  zA_c (zOk_fl zn_iload (zs_iload_n (q := 3) rfl (by decide +kernel))) <|
  zA_c (zOk_fl zn_ald (zs_iald (by decide +kernel))) <|
  zA_c (zk_V zq_258 zw_1513 rfl (by decide +kernel)) <|
  zA_c (zOk_fl zn_ifeq (zs_ifeq (off := 18) (by decide +kernel) (by decide))) <|
  zA_c (zOk_fl zn_iload (zs_iload_n (q := 2) rfl (by decide +kernel))) <|
  zA_c (zOk_fl zn_iload (zs_iload_n (q := 1) rfl (by decide +kernel))) <|
  zA_c (zOk_fl zn_icne (zs_icne (off := 10) (by decide +kernel) (by decide))) <|
  zA_c (zOk_fl zn_aload (zs_aload_n (q := 0) rfl (by decide +kernel))) <|
  zA_c (zOk_fl zn_getR (zs_getR (k := 11) rfl (by decide) (by decide +kernel) rfl (by decide +kernel) zw_1190)) <|
  zA_c (zOk_fl zn_iload (zs_iload_n (q := 3) rfl (by decide +kernel))) <|
  zA_c (zOk_fl zn_ald (zs_iald (by decide +kernel))) <|
  zA_c (zs_iret (by decide +kernel) rfl) <|
  zA_n
def zcl_262_2 : List (Nat × zmI) := [(64, zm_iinc 67 2 1), (67, zm_iinc 70 3 1), (70, zm_goto 28), (73, zm_iload 74 1), (74, zm_push 75 (-1)), (75, zm_icne 78 82), (78, zm_iload 79 2), (79, zm_goto 83), (82, zm_push 83 (-1)), (83, zm_iret)]
theorem zmc_262_2 (l : Launch) : zAll l "ChessWireModel" prog_14_method_72_code 4 false (some .int) zcl_262_2 :=
  zA_c (zOk_fl zn_iinc (zs_iinc rfl (by decide +kernel))) <|
  zA_c (zOk_fl zn_iinc (zs_iinc rfl (by decide +kernel))) <|
  zA_c (zOk_fl zn_goto (zs_goto (off := (-42)) (by decide +kernel) (by decide))) <|
  zA_c (zOk_fl zn_iload (zs_iload_n (q := 1) rfl (by decide +kernel))) <|
  zA_c (zOk_fl zn_push (zs_iconst (n := (-1)) (by decide +kernel) rfl)) <|
  zA_c (zOk_fl zn_icne (zs_icne (off := 7) (by decide +kernel) (by decide))) <|
  zA_c (zOk_fl zn_iload (zs_iload_n (q := 2) rfl (by decide +kernel))) <|
  zA_c (zOk_fl zn_goto (zs_goto (off := 4) (by decide +kernel) (by decide))) <|
  zA_c (zOk_fl zn_push (zs_iconst (n := (-1)) (by decide +kernel) rfl)) <|
  zA_c (zs_iret (by decide +kernel) rfl) <|
  zA_n
def zc_262 : Nat → zmI := zgetC [zcl_262_0, zcl_262_1, zcl_262_2]
theorem zmf_262 (l : Launch) : zMf l zc_262 262 := ⟨by decide +kernel, false, (fun h => by cases h), fun pc => zgetC_ok (zA2_c (zmc_262_0 l) (zA2_c (zmc_262_1 l) (zA2_c (zmc_262_2 l) (zA2_n)))) pc⟩
def zcl_263_0 : List (Nat × zmI) := [(0, zm_iload 1 1), (1, zm_push 2 (-1)), (2, zm_iclt 5 13), (5, zm_aload 6 0), (6, zm_iload 7 1), (7, zm_call 10 264 2 true 12), (10, zm_goto 15), (13, zm_push 15 (-2)), (15, zm_iret)]
theorem zmc_263_0 (l : Launch) : zAll l "ChessWireModel" prog_14_method_76_code 2 false (some .int) zcl_263_0 :=
  zA_c (zOk_fl zn_iload (zs_iload_n (q := 1) rfl (by decide +kernel))) <|
  zA_c (zOk_fl zn_push (zs_iconst (n := (-1)) (by decide +kernel) rfl)) <|
  zA_c (zOk_fl zn_iclt (zs_iclt (off := 11) (by decide +kernel) (by decide))) <|
  zA_c (zOk_fl zn_aload (zs_aload_n (q := 0) rfl (by decide +kernel))) <|
  zA_c (zOk_fl zn_iload (zs_iload_n (q := 1) rfl (by decide +kernel))) <|
  zA_c (zk_V zq_264 zw_1537 rfl (by decide +kernel)) <|
  zA_c (zOk_fl zn_goto (zs_goto (off := 5) (by decide +kernel) (by decide))) <|
  zA_c (zOk_fl zn_push (zs_bipush (n := (-2)) (by decide +kernel) rfl)) <|
  zA_c (zs_iret (by decide +kernel) rfl) <|
  zA_n
def zc_263 : Nat → zmI := zgetC [zcl_263_0]
theorem zmf_263 (l : Launch) : zMf l zc_263 263 := ⟨by decide +kernel, false, (fun h => by cases h), fun pc => zgetC_ok (zA2_c (zmc_263_0 l) (zA2_n)) pc⟩
def zcl_264_0 : List (Nat × zmI) := [(0, zm_aload 1 0), (1, zm_push 2 0), (2, zm_call 5 232 2 false 12), (5, zm_push 6 0), (6, zm_istore 7 2), (7, zm_push 8 0), (8, zm_istore 9 3), (9, zm_iload 10 3), (10, zm_aload 11 0), (11, zm_getR 14 12 12), (14, zm_push 15 0), (15, zm_ald 16 100), (16, zm_icge 19 59), (19, zm_aload 20 0), (20, zm_push 21 0), (21, zm_aload 22 0), (22, zm_getR 25 12 11), (25, zm_iload 26 3), (26, zm_ald 27 100), (27, zm_call 30 253 3 true 12), (30, zm_pop 31), (31, zm_aload 32 0)]
theorem zmc_264_0 (l : Launch) : zAll l "ChessWireModel" prog_14_method_75_code 4 false (some .int) zcl_264_0 :=
  zA_c (zOk_fl zn_aload (zs_aload_n (q := 0) rfl (by decide +kernel))) <|
  zA_c (zOk_fl zn_push (zs_iconst (n := 0) (by decide +kernel) rfl)) <|
  zA_c (zk_V zq_232 zw_1411 rfl (by decide +kernel)) <|
  zA_c (zOk_fl zn_push (zs_iconst (n := 0) (by decide +kernel) rfl)) <|
  zA_c (zOk_fl zn_istore (zs_istore_n (q := 2) rfl (by decide +kernel))) <|
  zA_c (zOk_fl zn_push (zs_iconst (n := 0) (by decide +kernel) rfl)) <|
  zA_c (zOk_fl zn_istore (zs_istore_n (q := 3) rfl (by decide +kernel))) <|
  zA_c (zOk_fl zn_iload (zs_iload_n (q := 3) rfl (by decide +kernel))) <|
  zA_c (zOk_fl zn_aload (zs_aload_n (q := 0) rfl (by decide +kernel))) <|
  zA_c (zOk_fl zn_getR (zs_getR (k := 12) rfl (by decide) (by decide +kernel) rfl (by decide +kernel) zw_1191)) <|
  zA_c (zOk_fl zn_push (zs_iconst (n := 0) (by decide +kernel) rfl)) <|
  zA_c (zOk_fl zn_ald (zs_iald (by decide +kernel))) <|
  zA_c (zOk_fl zn_icge (zs_icge (off := 43) (by decide +kernel) (by decide))) <|
  zA_c (zOk_fl zn_aload (zs_aload_n (q := 0) rfl (by decide +kernel))) <|
  zA_c (zOk_fl zn_push (zs_iconst (n := 0) (by decide +kernel) rfl)) <|
  zA_c (zOk_fl zn_aload (zs_aload_n (q := 0) rfl (by decide +kernel))) <|
  zA_c (zOk_fl zn_getR (zs_getR (k := 11) rfl (by decide) (by decide +kernel) rfl (by decide +kernel) zw_1190)) <|
  zA_c (zOk_fl zn_iload (zs_iload_n (q := 3) rfl (by decide +kernel))) <|
  zA_c (zOk_fl zn_ald (zs_iald (by decide +kernel))) <|
  zA_c (zk_V zq_253 zw_1493 rfl (by decide +kernel)) <|
  zA_c (zOk_fl zn_pop (zs_pop (by decide +kernel))) <|
  zA_c (zOk_fl zn_aload (zs_aload_n (q := 0) rfl (by decide +kernel))) <|
  zA_n
def zcl_264_1 : List (Nat × zmI) := [(32, zm_call 35 265 1 true 12), (35, zm_ifeq 38 53), (38, zm_iload 39 2), (39, zm_iload 40 1), (40, zm_icne 43 50), (43, zm_aload 44 0), (44, zm_getR 47 12 11), (47, zm_iload 48 3), (48, zm_ald 49 100), (49, zm_iret), (50, zm_iinc 53 2 1), (53, zm_iinc 56 3 1), (56, zm_goto 9), (59, zm_iload 60 1), (60, zm_push 61 (-1)), (61, zm_icne 64 68)]
theorem zmc_264_1 (l : Launch) : zAll l "ChessWireModel" prog_14_method_75_code 4 false (some .int) zcl_264_1 :=
  zA_c (zk_V zq_265 zw_1541 rfl (by decide +kernel)) <|
  zA_c (zOk_fl zn_ifeq (zs_ifeq (off := 18) (by decide +kernel) (by decide))) <|
  zA_c (zOk_fl zn_iload (zs_iload_n (q := 2) rfl (by decide +kernel))) <|
  zA_c (zOk_fl zn_iload (zs_iload_n (q := 1) rfl (by decide +kernel))) <|
  zA_c (zOk_fl zn_icne (zs_icne (off := 10) (by decide +kernel) (by decide))) <|
  zA_c (zOk_fl zn_aload (zs_aload_n (q := 0) rfl (by decide +kernel))) <|
  zA_c (zOk_fl zn_getR (zs_getR (k := 11) rfl (by decide) (by decide +kernel) rfl (by decide +kernel) zw_1190)) <|
  zA_c (zOk_fl zn_iload (zs_iload_n (q := 3) rfl (by decide +kernel))) <|
  zA_c (zOk_fl zn_ald (zs_iald (by decide +kernel))) <|
  zA_c (zs_iret (by decide +kernel) rfl) <|
  zA_c (zOk_fl zn_iinc (zs_iinc rfl (by decide +kernel))) <|
  zA_c (zOk_fl zn_iinc (zs_iinc rfl (by decide +kernel))) <|
  zA_c (zOk_fl zn_goto (zs_goto (off := (-47)) (by decide +kernel) (by decide))) <|
  zA_c (zOk_fl zn_iload (zs_iload_n (q := 1) rfl (by decide +kernel))) <|
  zA_c (zOk_fl zn_push (zs_iconst (n := (-1)) (by decide +kernel) rfl)) <|
  zA_c (zOk_fl zn_icne (zs_icne (off := 7) (by decide +kernel) (by decide))) <|
  zA_n
def zcl_264_2 : List (Nat × zmI) := [(64, zm_iload 65 2), (65, zm_goto 69), (68, zm_push 69 (-1)), (69, zm_iret)]
theorem zmc_264_2 (l : Launch) : zAll l "ChessWireModel" prog_14_method_75_code 4 false (some .int) zcl_264_2 :=
  zA_c (zOk_fl zn_iload (zs_iload_n (q := 2) rfl (by decide +kernel))) <|
  zA_c (zOk_fl zn_goto (zs_goto (off := 4) (by decide +kernel) (by decide))) <|
  zA_c (zOk_fl zn_push (zs_iconst (n := (-1)) (by decide +kernel) rfl)) <|
  zA_c (zs_iret (by decide +kernel) rfl) <|
  zA_n
def zc_264 : Nat → zmI := zgetC [zcl_264_0, zcl_264_1, zcl_264_2]
theorem zmf_264 (l : Launch) : zMf l zc_264 264 := ⟨by decide +kernel, false, (fun h => by cases h), fun pc => zgetC_ok (zA2_c (zmc_264_0 l) (zA2_c (zmc_264_1 l) (zA2_c (zmc_264_2 l) (zA2_n)))) pc⟩
def zcl_265_0 : List (Nat × zmI) := [(0, zm_push 1 0), (1, zm_istore 2 1), (2, zm_push 3 0), (3, zm_istore 4 2), (4, zm_iload 5 2), (5, zm_aload 6 0), (6, zm_getI 9 12 19), (9, zm_icge 12 54), (12, zm_aload 13 0), (13, zm_getI 16 12 19), (16, zm_aload 17 0), (17, zm_getR 20 12 6), (20, zm_push 21 1), (21, zm_ald 22 100), (22, zm_icne 25 54), (25, zm_iload 26 1), (26, zm_aload 27 0), (27, zm_getR 30 12 18), (30, zm_iload 31 2), (31, zm_ald 32 100)]
theorem zmc_265_0 (l : Launch) : zAll l "ChessWireModel" prog_14_method_74_code 3 false (some .boolean) zcl_265_0 :=
  zA_c (zOk_fl zn_push (zs_iconst (n := 0) (by decide +kernel) rfl)) <|
  zA_c (zOk_fl zn_istore (zs_istore_n (q := 1) rfl (by decide +kernel))) <|
  zA_c (zOk_fl zn_push (zs_iconst (n := 0) (by decide +kernel) rfl)) <|
  zA_c (zOk_fl zn_istore (zs_istore_n (q := 2) rfl (by decide +kernel))) <|
  zA_c (zOk_fl zn_iload (zs_iload_n (q := 2) rfl (by decide +kernel))) <|
  zA_c (zOk_fl zn_aload (zs_aload_n (q := 0) rfl (by decide +kernel))) <|
  zA_c (zOk_fl zn_getI (zs_getI (k := 19) rfl (by decide) (by decide +kernel) rfl (by decide +kernel) zw_1198)) <|
  zA_c (zOk_fl zn_icge (zs_icge (off := 45) (by decide +kernel) (by decide))) <|
  zA_c (zOk_fl zn_aload (zs_aload_n (q := 0) rfl (by decide +kernel))) <|
  zA_c (zOk_fl zn_getI (zs_getI (k := 19) rfl (by decide) (by decide +kernel) rfl (by decide +kernel) zw_1198)) <|
  zA_c (zOk_fl zn_aload (zs_aload_n (q := 0) rfl (by decide +kernel))) <|
  zA_c (zOk_fl zn_getR (zs_getR (k := 6) rfl (by decide) (by decide +kernel) rfl (by decide +kernel) zw_1185)) <|
  zA_c (zOk_fl zn_push (zs_iconst (n := 1) (by decide +kernel) rfl)) <|
  zA_c (zOk_fl zn_ald (zs_iald (by decide +kernel))) <|
  zA_c (zOk_fl zn_icne (zs_icne (off := 32) (by decide +kernel) (by decide))) <|
  zA_c (zOk_fl zn_iload (zs_iload_n (q := 1) rfl (by decide +kernel))) <|
  zA_c (zOk_fl zn_aload (zs_aload_n (q := 0) rfl (by decide +kernel))) <|
  zA_c (zOk_fl zn_getR (zs_getR (k := 18) rfl (by decide) (by decide +kernel) rfl (by decide +kernel) zw_1197)) <|
  zA_c (zOk_fl zn_iload (zs_iload_n (q := 2) rfl (by decide +kernel))) <|
  zA_c (zOk_fl zn_ald (zs_iald (by decide +kernel))) <|
  zA_n
def zcl_265_1 : List (Nat × zmI) := [(32, zm_aload 33 0), (33, zm_push 34 1), (34, zm_iload 35 2), (35, zm_call 38 197 3 true 12), (38, zm_icne 41 45), (41, zm_push 42 0), (42, zm_goto 46), (45, zm_push 46 1), (46, zm_bin 47 (fun x y => w32 (x + y))), (47, zm_istore 48 1), (48, zm_iinc 51 2 1), (51, zm_goto 4), (54, zm_iload 55 1), (55, zm_push 56 1), (56, zm_icne 59 63), (59, zm_push 60 1), (60, zm_goto 64), (63, zm_push 64 0)]
theorem zmc_265_1 (l : Launch) : zAll l "ChessWireModel" prog_14_method_74_code 3 false (some .boolean) zcl_265_1 :=
  zA_c (zOk_fl zn_aload (zs_aload_n (q := 0) rfl (by decide +kernel))) <|
  zA_c (zOk_fl zn_push (zs_iconst (n := 1) (by decide +kernel) rfl)) <|
  zA_c (zOk_fl zn_iload (zs_iload_n (q := 2) rfl (by decide +kernel))) <|
  zA_c (zk_V zq_197 zw_1156 rfl (by decide +kernel)) <|
  zA_c (zOk_fl zn_icne (zs_icne (off := 7) (by decide +kernel) (by decide))) <|
  zA_c (zOk_fl zn_push (zs_iconst (n := 0) (by decide +kernel) rfl)) <|
  zA_c (zOk_fl zn_goto (zs_goto (off := 4) (by decide +kernel) (by decide))) <|
  zA_c (zOk_fl zn_push (zs_iconst (n := 1) (by decide +kernel) rfl)) <|
  zA_c (zOk_fl zn_bin (zs_iadd (by decide +kernel))) <|
  zA_c (zOk_fl zn_istore (zs_istore_n (q := 1) rfl (by decide +kernel))) <|
  zA_c (zOk_fl zn_iinc (zs_iinc rfl (by decide +kernel))) <|
  zA_c (zOk_fl zn_goto (zs_goto (off := (-47)) (by decide +kernel) (by decide))) <|
  zA_c (zOk_fl zn_iload (zs_iload_n (q := 1) rfl (by decide +kernel))) <|
  zA_c (zOk_fl zn_push (zs_iconst (n := 1) (by decide +kernel) rfl)) <|
  zA_c (zOk_fl zn_icne (zs_icne (off := 7) (by decide +kernel) (by decide))) <|
  zA_c (zOk_fl zn_push (zs_iconst (n := 1) (by decide +kernel) rfl)) <|
  zA_c (zOk_fl zn_goto (zs_goto (off := 4) (by decide +kernel) (by decide))) <|
  zA_c (zOk_fl zn_push (zs_iconst (n := 0) (by decide +kernel) rfl)) <|
  zA_n
def zcl_265_2 : List (Nat × zmI) := [(64, zm_zret)]
theorem zmc_265_2 (l : Launch) : zAll l "ChessWireModel" prog_14_method_74_code 3 false (some .boolean) zcl_265_2 :=
  zA_c (zs_zret (by decide +kernel) rfl) <|
  zA_n
def zc_265 : Nat → zmI := zgetC [zcl_265_0, zcl_265_1, zcl_265_2]
theorem zmf_265 (l : Launch) : zMf l zc_265 265 := ⟨by decide +kernel, false, (fun h => by cases h), fun pc => zgetC_ok (zA2_c (zmc_265_0 l) (zA2_c (zmc_265_1 l) (zA2_c (zmc_265_2 l) (zA2_n)))) pc⟩
def zcl_266_0 : List (Nat × zmI) := [(0, zm_iload 1 1), (1, zm_i2l 2), (2, zm_pushl 3 0), (3, zm_pushl 6 5), (6, zm_call 9 201 3 true 99), (9, zm_ifeq 12 24), (12, zm_iload 13 2), (13, zm_i2l 14), (14, zm_pushl 15 0), (15, zm_pushl 18 9), (18, zm_call 21 201 3 true 99), (21, zm_ifne 24 27), (24, zm_push 26 (-2)), (26, zm_iret), (27, zm_aload 28 0), (28, zm_getR 31 12 22), (31, zm_iload 32 1)]
theorem zmc_266_0 (l : Launch) : zAll l "ChessWireModel" prog_14_method_77_code 4 false (some .int) zcl_266_0 :=
  zA_c (zOk_fl zn_iload (zs_iload_n (q := 1) rfl (by decide +kernel))) <|
  zA_c (zOk_fl zn_i2l (zs_i2l (by decide +kernel))) <|
  zA_c (zOk_fl zn_pushl (zs_lconst (n := 0) (by decide +kernel) rfl)) <|
  zA_c (zOk_fl zn_pushl (zs_ldc2 (by decide +kernel) zw_1549 rfl)) <|
  zA_c (zk_S zq_201 zw_1172 (by decide +kernel)) <|
  zA_c (zOk_fl zn_ifeq (zs_ifeq (off := 15) (by decide +kernel) (by decide))) <|
  zA_c (zOk_fl zn_iload (zs_iload_n (q := 2) rfl (by decide +kernel))) <|
  zA_c (zOk_fl zn_i2l (zs_i2l (by decide +kernel))) <|
  zA_c (zOk_fl zn_pushl (zs_lconst (n := 0) (by decide +kernel) rfl)) <|
  zA_c (zOk_fl zn_pushl (zs_ldc2 (by decide +kernel) zw_1550 rfl)) <|
  zA_c (zk_S zq_201 zw_1172 (by decide +kernel)) <|
  zA_c (zOk_fl zn_ifne (zs_ifne (off := 6) (by decide +kernel) (by decide))) <|
  zA_c (zOk_fl zn_push (zs_bipush (n := (-2)) (by decide +kernel) rfl)) <|
  zA_c (zs_iret (by decide +kernel) rfl) <|
  zA_c (zOk_fl zn_aload (zs_aload_n (q := 0) rfl (by decide +kernel))) <|
  zA_c (zOk_fl zn_getR (zs_getR (k := 22) rfl (by decide) (by decide +kernel) rfl (by decide +kernel) zw_1201)) <|
  zA_c (zOk_fl zn_iload (zs_iload_n (q := 1) rfl (by decide +kernel))) <|
  zA_n
def zcl_266_1 : List (Nat × zmI) := [(32, zm_ald 33 100), (33, zm_istore 34 3), (34, zm_aload 35 0), (35, zm_getR 38 12 22), (38, zm_iload 39 1), (39, zm_iload 40 2), (40, zm_iast 41), (41, zm_iload 42 3), (42, zm_iret)]
theorem zmc_266_1 (l : Launch) : zAll l "ChessWireModel" prog_14_method_77_code 4 false (some .int) zcl_266_1 :=
  zA_c (zOk_fl zn_ald (zs_iald (by decide +kernel))) <|
  zA_c (zOk_fl zn_istore (zs_istore_n (q := 3) rfl (by decide +kernel))) <|
  zA_c (zOk_fl zn_aload (zs_aload_n (q := 0) rfl (by decide +kernel))) <|
  zA_c (zOk_fl zn_getR (zs_getR (k := 22) rfl (by decide) (by decide +kernel) rfl (by decide +kernel) zw_1201)) <|
  zA_c (zOk_fl zn_iload (zs_iload_n (q := 1) rfl (by decide +kernel))) <|
  zA_c (zOk_fl zn_iload (zs_iload_n (q := 2) rfl (by decide +kernel))) <|
  zA_c (zOk_sn zn_iast (zs_iast (by decide +kernel))) <|
  zA_c (zOk_fl zn_iload (zs_iload_n (q := 3) rfl (by decide +kernel))) <|
  zA_c (zs_iret (by decide +kernel) rfl) <|
  zA_n
def zc_266 : Nat → zmI := zgetC [zcl_266_0, zcl_266_1]
theorem zmf_266 (l : Launch) : zMf l zc_266 266 := ⟨by decide +kernel, false, (fun h => by cases h), fun pc => zgetC_ok (zA2_c (zmc_266_0 l) (zA2_c (zmc_266_1 l) (zA2_n))) pc⟩
def zcl_267_0 : List (Nat × zmI) := [(0, zm_iload 1 1), (1, zm_i2l 2), (2, zm_pushl 5 2), (5, zm_pushl 8 26), (8, zm_call 11 201 3 true 99), (11, zm_ifeq 14 22), (14, zm_aload 15 0), (15, zm_iload 16 1), (16, zm_call 19 268 2 true 12), (19, zm_goto 24), (22, zm_push 24 (-2)), (24, zm_iret)]
theorem zmc_267_0 (l : Launch) : zAll l "ChessWireModel" prog_14_method_81_code 2 false (some .int) zcl_267_0 :=
  zA_c (zOk_fl zn_iload (zs_iload_n (q := 1) rfl (by decide +kernel))) <|
  zA_c (zOk_fl zn_i2l (zs_i2l (by decide +kernel))) <|
  zA_c (zOk_fl zn_pushl (zs_ldc2 (by decide +kernel) zw_1303 rfl)) <|
  zA_c (zOk_fl zn_pushl (zs_ldc2 (by decide +kernel) zw_1555 rfl)) <|
  zA_c (zk_S zq_201 zw_1172 (by decide +kernel)) <|
  zA_c (zOk_fl zn_ifeq (zs_ifeq (off := 11) (by decide +kernel) (by decide))) <|
  zA_c (zOk_fl zn_aload (zs_aload_n (q := 0) rfl (by decide +kernel))) <|
  zA_c (zOk_fl zn_iload (zs_iload_n (q := 1) rfl (by decide +kernel))) <|
  zA_c (zk_V zq_268 zw_1556 rfl (by decide +kernel)) <|
  zA_c (zOk_fl zn_goto (zs_goto (off := 5) (by decide +kernel) (by decide))) <|
  zA_c (zOk_fl zn_push (zs_bipush (n := (-2)) (by decide +kernel) rfl)) <|
  zA_c (zs_iret (by decide +kernel) rfl) <|
  zA_n
def zc_267 : Nat → zmI := zgetC [zcl_267_0]
theorem zmf_267 (l : Launch) : zMf l zc_267 267 := ⟨by decide +kernel, false, (fun h => by cases h), fun pc => zgetC_ok (zA2_c (zmc_267_0 l) (zA2_n)) pc⟩
def zcl_268_0 : List (Nat × zmI) := [(0, zm_aload 1 0), (1, zm_push 2 0), (2, zm_call 5 232 2 false 12), (5, zm_aload 6 0), (6, zm_getR 9 12 12), (9, zm_push 10 0), (10, zm_ald 11 100), (11, zm_istore 12 2), (12, zm_push 13 0), (13, zm_istore 14 3), (14, zm_iload 15 3), (15, zm_iload 16 2), (16, zm_icge 19 42), (19, zm_aload 20 0), (20, zm_getR 23 12 23), (23, zm_iload 24 3), (24, zm_aload 25 0), (25, zm_push 26 0), (26, zm_aload 27 0), (27, zm_getR 30 12 11), (30, zm_iload 31 3), (31, zm_ald 32 100)]
theorem zmc_268_0 (l : Launch) : zAll l "ChessWireModel" prog_14_method_80_code 6 false (some .int) zcl_268_0 :=
  zA_c (zOk_fl zn_aload (zs_aload_n (q := 0) rfl (by decide +kernel))) <|
  zA_c (zOk_fl zn_push (zs_iconst (n := 0) (by decide +kernel) rfl)) <|
  zA_c (zk_V zq_232 zw_1411 rfl (by decide +kernel)) <|
  zA_c (zOk_fl zn_aload (zs_aload_n (q := 0) rfl (by decide +kernel))) <|
  zA_c (zOk_fl zn_getR (zs_getR (k := 12) rfl (by decide) (by decide +kernel) rfl (by decide +kernel) zw_1191)) <|
  zA_c (zOk_fl zn_push (zs_iconst (n := 0) (by decide +kernel) rfl)) <|
  zA_c (zOk_fl zn_ald (zs_iald (by decide +kernel))) <|
  zA_c (zOk_fl zn_istore (zs_istore_n (q := 2) rfl (by decide +kernel))) <|
  zA_c (zOk_fl zn_push (zs_iconst (n := 0) (by decide +kernel) rfl)) <|
  zA_c (zOk_fl zn_istore (zs_istore_n (q := 3) rfl (by decide +kernel))) <|
  zA_c (zOk_fl zn_iload (zs_iload_n (q := 3) rfl (by decide +kernel))) <|
  zA_c (zOk_fl zn_iload (zs_iload_n (q := 2) rfl (by decide +kernel))) <|
  zA_c (zOk_fl zn_icge (zs_icge (off := 26) (by decide +kernel) (by decide))) <|
  zA_c (zOk_fl zn_aload (zs_aload_n (q := 0) rfl (by decide +kernel))) <|
  zA_c (zOk_fl zn_getR (zs_getR (k := 23) rfl (by decide) (by decide +kernel) rfl (by decide +kernel) zw_1202)) <|
  zA_c (zOk_fl zn_iload (zs_iload_n (q := 3) rfl (by decide +kernel))) <|
  zA_c (zOk_fl zn_aload (zs_aload_n (q := 0) rfl (by decide +kernel))) <|
  zA_c (zOk_fl zn_push (zs_iconst (n := 0) (by decide +kernel) rfl)) <|
  zA_c (zOk_fl zn_aload (zs_aload_n (q := 0) rfl (by decide +kernel))) <|
  zA_c (zOk_fl zn_getR (zs_getR (k := 11) rfl (by decide) (by decide +kernel) rfl (by decide +kernel) zw_1190)) <|
  zA_c (zOk_fl zn_iload (zs_iload_n (q := 3) rfl (by decide +kernel))) <|
  zA_c (zOk_fl zn_ald (zs_iald (by decide +kernel))) <|
  zA_n
def zcl_268_1 : List (Nat × zmI) := [(32, zm_call 35 269 3 true 12), (35, zm_iast 36), (36, zm_iinc 39 3 1), (39, zm_goto 14), (42, zm_iload 43 2), (43, zm_push 44 1), (44, zm_icle 47 70), (47, zm_iload 48 2), (48, zm_push 49 1), (49, zm_bin 50 (fun x y => w32 (x - y))), (50, zm_iload 51 1), (51, zm_push 52 1), (52, zm_bin 53 (fun x y => w32 (x - y))), (53, zm_quo 54 z_rem), (54, zm_ifeq 57 70), (57, zm_aload 58 0), (58, zm_getR 61 12 23), (61, zm_iload 62 2), (62, zm_push 63 0), (63, zm_iast 64)]
theorem zmc_268_1 (l : Launch) : zAll l "ChessWireModel" prog_14_method_80_code 6 false (some .int) zcl_268_1 :=
  zA_c (zk_V zq_269 zw_1560 rfl (by decide +kernel)) <|
  zA_c (zOk_sn zn_iast (zs_iast (by decide +kernel))) <|
  zA_c (zOk_fl zn_iinc (zs_iinc rfl (by decide +kernel))) <|
  zA_c (zOk_fl zn_goto (zs_goto (off := (-25)) (by decide +kernel) (by decide))) <|
  zA_c (zOk_fl zn_iload (zs_iload_n (q := 2) rfl (by decide +kernel))) <|
  zA_c (zOk_fl zn_push (zs_iconst (n := 1) (by decide +kernel) rfl)) <|
  zA_c (zOk_fl zn_icle (zs_icle (off := 26) (by decide +kernel) (by decide))) <|
  zA_c (zOk_fl zn_iload (zs_iload_n (q := 2) rfl (by decide +kernel))) <|
  zA_c (zOk_fl zn_push (zs_iconst (n := 1) (by decide +kernel) rfl)) <|
  zA_c (zOk_fl zn_bin (zs_isub (by decide +kernel))) <|
  zA_c (zOk_fl zn_iload (zs_iload_n (q := 1) rfl (by decide +kernel))) <|
  zA_c (zOk_fl zn_push (zs_iconst (n := 1) (by decide +kernel) rfl)) <|
  zA_c (zOk_fl zn_bin (zs_isub (by decide +kernel))) <|
  zA_c (zOk_fl zn_quo (zs_irem (by decide +kernel))) <|
  zA_c (zOk_fl zn_ifeq (zs_ifeq (off := 16) (by decide +kernel) (by decide))) <|
  zA_c (zOk_fl zn_aload (zs_aload_n (q := 0) rfl (by decide +kernel))) <|
  zA_c (zOk_fl zn_getR (zs_getR (k := 23) rfl (by decide) (by decide +kernel) rfl (by decide +kernel) zw_1202)) <|
  zA_c (zOk_fl zn_iload (zs_iload_n (q := 2) rfl (by decide +kernel))) <|
  zA_c (zOk_fl zn_push (zs_iconst (n := 0) (by decide +kernel) rfl)) <|
  zA_c (zOk_sn zn_iast (zs_iast (by decide +kernel))) <|
  zA_n
def zcl_268_2 : List (Nat × zmI) := [(64, zm_iinc 67 2 1), (67, zm_goto 42), (70, zm_push 71 0), (71, zm_istore 72 3), (72, zm_iload 73 2), (73, zm_push 74 1), (74, zm_icle 77 127), (77, zm_push 78 0), (78, zm_istore 80 4), (80, zm_push 81 0), (81, zm_istore 83 5), (83, zm_iload 85 5), (85, zm_iload 86 1), (86, zm_icge 89 108), (89, zm_iload 91 4), (91, zm_aload 92 0), (92, zm_iload 93 2), (93, zm_call 96 270 2 true 12)]
theorem zmc_268_2 (l : Launch) : zAll l "ChessWireModel" prog_14_method_80_code 6 false (some .int) zcl_268_2 :=
  zA_c (zOk_fl zn_iinc (zs_iinc rfl (by decide +kernel))) <|
  zA_c (zOk_fl zn_goto (zs_goto (off := (-25)) (by decide +kernel) (by decide))) <|
  zA_c (zOk_fl zn_push (zs_iconst (n := 0) (by decide +kernel) rfl)) <|
  zA_c (zOk_fl zn_istore (zs_istore_n (q := 3) rfl (by decide +kernel))) <|
  zA_c (zOk_fl zn_iload (zs_iload_n (q := 2) rfl (by decide +kernel))) <|
  zA_c (zOk_fl zn_push (zs_iconst (n := 1) (by decide +kernel) rfl)) <|
  zA_c (zOk_fl zn_icle (zs_icle (off := 53) (by decide +kernel) (by decide))) <|
  zA_c (zOk_fl zn_push (zs_iconst (n := 0) (by decide +kernel) rfl)) <|
  zA_c (zOk_fl zn_istore (zs_istore (by decide +kernel))) <|
  zA_c (zOk_fl zn_push (zs_iconst (n := 0) (by decide +kernel) rfl)) <|
  zA_c (zOk_fl zn_istore (zs_istore (by decide +kernel))) <|
  zA_c (zOk_fl zn_iload (zs_iload (by decide +kernel))) <|
  zA_c (zOk_fl zn_iload (zs_iload_n (q := 1) rfl (by decide +kernel))) <|
  zA_c (zOk_fl zn_icge (zs_icge (off := 22) (by decide +kernel) (by decide))) <|
  zA_c (zOk_fl zn_iload (zs_iload (by decide +kernel))) <|
  zA_c (zOk_fl zn_aload (zs_aload_n (q := 0) rfl (by decide +kernel))) <|
  zA_c (zOk_fl zn_iload (zs_iload_n (q := 2) rfl (by decide +kernel))) <|
  zA_c (zk_V zq_270 zw_1564 rfl (by decide +kernel)) <|
  zA_n
def zcl_268_3 : List (Nat × zmI) := [(96, zm_bin 97 (fun x y => w32 (x + y))), (97, zm_istore 99 4), (99, zm_iinc 102 2 (-1)), (102, zm_iinc 105 5 1), (105, zm_goto 83), (108, zm_aload 109 0), (109, zm_getR 112 12 23), (112, zm_iload 113 2), (113, zm_iload 115 4), (115, zm_iast 116), (116, zm_iinc 119 2 1), (119, zm_iload 120 3), (120, zm_iload 122 4), (122, zm_bin 123 (fun x y => w32 (x + y))), (123, zm_istore 124 3), (124, zm_goto 72), (127, zm_iload 128 3)]
theorem zmc_268_3 (l : Launch) : zAll l "ChessWireModel" prog_14_method_80_code 6 false (some .int) zcl_268_3 :=
  zA_c (zOk_fl zn_bin (zs_iadd (by decide +kernel))) <|
  zA_c (zOk_fl zn_istore (zs_istore (by decide +kernel))) <|
  zA_c (zOk_fl zn_iinc (zs_iinc rfl (by decide +kernel))) <|
  zA_c (zOk_fl zn_iinc (zs_iinc rfl (by decide +kernel))) <|
  zA_c (zOk_fl zn_goto (zs_goto (off := (-22)) (by decide +kernel) (by decide))) <|
  zA_c (zOk_fl zn_aload (zs_aload_n (q := 0) rfl (by decide +kernel))) <|
  zA_c (zOk_fl zn_getR (zs_getR (k := 23) rfl (by decide) (by decide +kernel) rfl (by decide +kernel) zw_1202)) <|
  zA_c (zOk_fl zn_iload (zs_iload_n (q := 2) rfl (by decide +kernel))) <|
  zA_c (zOk_fl zn_iload (zs_iload (by decide +kernel))) <|
  zA_c (zOk_sn zn_iast (zs_iast (by decide +kernel))) <|
  zA_c (zOk_fl zn_iinc (zs_iinc rfl (by decide +kernel))) <|
  zA_c (zOk_fl zn_iload (zs_iload_n (q := 3) rfl (by decide +kernel))) <|
  zA_c (zOk_fl zn_iload (zs_iload (by decide +kernel))) <|
  zA_c (zOk_fl zn_bin (zs_iadd (by decide +kernel))) <|
  zA_c (zOk_fl zn_istore (zs_istore_n (q := 3) rfl (by decide +kernel))) <|
  zA_c (zOk_fl zn_goto (zs_goto (off := (-52)) (by decide +kernel) (by decide))) <|
  zA_c (zOk_fl zn_iload (zs_iload_n (q := 3) rfl (by decide +kernel))) <|
  zA_n
def zcl_268_4 : List (Nat × zmI) := [(128, zm_iret)]
theorem zmc_268_4 (l : Launch) : zAll l "ChessWireModel" prog_14_method_80_code 6 false (some .int) zcl_268_4 :=
  zA_c (zs_iret (by decide +kernel) rfl) <|
  zA_n
def zc_268 : Nat → zmI := zgetC [zcl_268_0, zcl_268_1, zcl_268_2, zcl_268_3, zcl_268_4]
theorem zmf_268 (l : Launch) : zMf l zc_268 268 := ⟨by decide +kernel, false, (fun h => by cases h), fun pc => zgetC_ok (zA2_c (zmc_268_0 l) (zA2_c (zmc_268_1 l) (zA2_c (zmc_268_2 l) (zA2_c (zmc_268_3 l) (zA2_c (zmc_268_4 l) (zA2_n)))))) pc⟩
def zcl_269_0 : List (Nat × zmI) := [(0, zm_aload 1 0), (1, zm_getR 4 12 22), (4, zm_aload 5 0), (5, zm_getR 8 12 8), (8, zm_push 10 64), (10, zm_iload 11 1), (11, zm_bin 12 (fun x y => w32 (x * y))), (12, zm_iload 13 2), (13, zm_push 15 64), (15, zm_quo 16 z_div), (16, zm_bin 17 (fun x y => w32 (x + y))), (17, zm_ald 18 100), (18, zm_push 20 8), (20, zm_quo 21 z_rem), (21, zm_push 22 1), (22, zm_bin 23 (fun x y => w32 (x - y))), (23, zm_ald 24 100), (24, zm_iret)]
theorem zmc_269_0 (l : Launch) : zAll l "ChessWireModel" prog_14_method_78_code 3 false (some .int) zcl_269_0 :=
  zA_c (zOk_fl zn_aload (zs_aload_n (q := 0) rfl (by decide +kernel))) <|
  zA_c (zOk_fl zn_getR (zs_getR (k := 22) rfl (by decide) (by decide +kernel) rfl (by decide +kernel) zw_1201)) <|
  zA_c (zOk_fl zn_aload (zs_aload_n (q := 0) rfl (by decide +kernel))) <|
  zA_c (zOk_fl zn_getR (zs_getR (k := 8) rfl (by decide) (by decide +kernel) rfl (by decide +kernel) zw_1187)) <|
  zA_c (zOk_fl zn_push (zs_bipush (n := 64) (by decide +kernel) rfl)) <|
  zA_c (zOk_fl zn_iload (zs_iload_n (q := 1) rfl (by decide +kernel))) <|
  zA_c (zOk_fl zn_bin (zs_imul (by decide +kernel))) <|
  zA_c (zOk_fl zn_iload (zs_iload_n (q := 2) rfl (by decide +kernel))) <|
  zA_c (zOk_fl zn_push (zs_bipush (n := 64) (by decide +kernel) rfl)) <|
  zA_c (zOk_fl zn_quo (zs_idiv (by decide +kernel))) <|
  zA_c (zOk_fl zn_bin (zs_iadd (by decide +kernel))) <|
  zA_c (zOk_fl zn_ald (zs_iald (by decide +kernel))) <|
  zA_c (zOk_fl zn_push (zs_bipush (n := 8) (by decide +kernel) rfl)) <|
  zA_c (zOk_fl zn_quo (zs_irem (by decide +kernel))) <|
  zA_c (zOk_fl zn_push (zs_iconst (n := 1) (by decide +kernel) rfl)) <|
  zA_c (zOk_fl zn_bin (zs_isub (by decide +kernel))) <|
  zA_c (zOk_fl zn_ald (zs_iald (by decide +kernel))) <|
  zA_c (zs_iret (by decide +kernel) rfl) <|
  zA_n
def zc_269 : Nat → zmI := zgetC [zcl_269_0]
theorem zmf_269 (l : Launch) : zMf l zc_269 269 := ⟨by decide +kernel, false, (fun h => by cases h), fun pc => zgetC_ok (zA2_c (zmc_269_0 l) (zA2_n)) pc⟩
def zcl_270_0 : List (Nat × zmI) := [(0, zm_push 1 0), (1, zm_istore 2 2), (2, zm_push 3 1), (3, zm_istore 4 3), (4, zm_iload 5 3), (5, zm_iload 6 1), (6, zm_icge 9 36), (9, zm_aload 10 0), (10, zm_getR 13 12 23), (13, zm_iload 14 3), (14, zm_ald 15 100), (15, zm_aload 16 0), (16, zm_getR 19 12 23), (19, zm_iload 20 2), (20, zm_ald 21 100), (21, zm_icge 24 28), (24, zm_iload 25 3), (25, zm_goto 29), (28, zm_iload 29 2), (29, zm_istore 30 2), (30, zm_iinc 33 3 1)]
theorem zmc_270_0 (l : Launch) : zAll l "ChessWireModel" prog_14_method_79_code 4 false (some .int) zcl_270_0 :=
  zA_c (zOk_fl zn_push (zs_iconst (n := 0) (by decide +kernel) rfl)) <|
  zA_c (zOk_fl zn_istore (zs_istore_n (q := 2) rfl (by decide +kernel))) <|
  zA_c (zOk_fl zn_push (zs_iconst (n := 1) (by decide +kernel) rfl)) <|
  zA_c (zOk_fl zn_istore (zs_istore_n (q := 3) rfl (by decide +kernel))) <|
  zA_c (zOk_fl zn_iload (zs_iload_n (q := 3) rfl (by decide +kernel))) <|
  zA_c (zOk_fl zn_iload (zs_iload_n (q := 1) rfl (by decide +kernel))) <|
  zA_c (zOk_fl zn_icge (zs_icge (off := 30) (by decide +kernel) (by decide))) <|
  zA_c (zOk_fl zn_aload (zs_aload_n (q := 0) rfl (by decide +kernel))) <|
  zA_c (zOk_fl zn_getR (zs_getR (k := 23) rfl (by decide) (by decide +kernel) rfl (by decide +kernel) zw_1202)) <|
  zA_c (zOk_fl zn_iload (zs_iload_n (q := 3) rfl (by decide +kernel))) <|
  zA_c (zOk_fl zn_ald (zs_iald (by decide +kernel))) <|
  zA_c (zOk_fl zn_aload (zs_aload_n (q := 0) rfl (by decide +kernel))) <|
  zA_c (zOk_fl zn_getR (zs_getR (k := 23) rfl (by decide) (by decide +kernel) rfl (by decide +kernel) zw_1202)) <|
  zA_c (zOk_fl zn_iload (zs_iload_n (q := 2) rfl (by decide +kernel))) <|
  zA_c (zOk_fl zn_ald (zs_iald (by decide +kernel))) <|
  zA_c (zOk_fl zn_icge (zs_icge (off := 7) (by decide +kernel) (by decide))) <|
  zA_c (zOk_fl zn_iload (zs_iload_n (q := 3) rfl (by decide +kernel))) <|
  zA_c (zOk_fl zn_goto (zs_goto (off := 4) (by decide +kernel) (by decide))) <|
  zA_c (zOk_fl zn_iload (zs_iload_n (q := 2) rfl (by decide +kernel))) <|
  zA_c (zOk_fl zn_istore (zs_istore_n (q := 2) rfl (by decide +kernel))) <|
  zA_c (zOk_fl zn_iinc (zs_iinc rfl (by decide +kernel))) <|
  zA_n
def zcl_270_1 : List (Nat × zmI) := [(33, zm_goto 4), (36, zm_aload 37 0), (37, zm_getR 40 12 23), (40, zm_iload 41 2), (41, zm_ald 42 100), (42, zm_istore 43 3), (43, zm_aload 44 0), (44, zm_getR 47 12 23), (47, zm_iload 48 2), (48, zm_aload 49 0), (49, zm_getR 52 12 23), (52, zm_iload 53 1), (53, zm_push 54 1), (54, zm_bin 55 (fun x y => w32 (x - y))), (55, zm_ald 56 100), (56, zm_iast 57), (57, zm_iload 58 3), (58, zm_iret)]
theorem zmc_270_1 (l : Launch) : zAll l "ChessWireModel" prog_14_method_79_code 4 false (some .int) zcl_270_1 :=
  zA_c (zOk_fl zn_goto (zs_goto (off := (-29)) (by decide +kernel) (by decide))) <|
  zA_c (zOk_fl zn_aload (zs_aload_n (q := 0) rfl (by decide +kernel))) <|
  zA_c (zOk_fl zn_getR (zs_getR (k := 23) rfl (by decide) (by decide +kernel) rfl (by decide +kernel) zw_1202)) <|
  zA_c (zOk_fl zn_iload (zs_iload_n (q := 2) rfl (by decide +kernel))) <|
  zA_c (zOk_fl zn_ald (zs_iald (by decide +kernel))) <|
  zA_c (zOk_fl zn_istore (zs_istore_n (q := 3) rfl (by decide +kernel))) <|
  zA_c (zOk_fl zn_aload (zs_aload_n (q := 0) rfl (by decide +kernel))) <|
  zA_c (zOk_fl zn_getR (zs_getR (k := 23) rfl (by decide) (by decide +kernel) rfl (by decide +kernel) zw_1202)) <|
  zA_c (zOk_fl zn_iload (zs_iload_n (q := 2) rfl (by decide +kernel))) <|
  zA_c (zOk_fl zn_aload (zs_aload_n (q := 0) rfl (by decide +kernel))) <|
  zA_c (zOk_fl zn_getR (zs_getR (k := 23) rfl (by decide) (by decide +kernel) rfl (by decide +kernel) zw_1202)) <|
  zA_c (zOk_fl zn_iload (zs_iload_n (q := 1) rfl (by decide +kernel))) <|
  zA_c (zOk_fl zn_push (zs_iconst (n := 1) (by decide +kernel) rfl)) <|
  zA_c (zOk_fl zn_bin (zs_isub (by decide +kernel))) <|
  zA_c (zOk_fl zn_ald (zs_iald (by decide +kernel))) <|
  zA_c (zOk_sn zn_iast (zs_iast (by decide +kernel))) <|
  zA_c (zOk_fl zn_iload (zs_iload_n (q := 3) rfl (by decide +kernel))) <|
  zA_c (zs_iret (by decide +kernel) rfl) <|
  zA_n
def zc_270 : Nat → zmI := zgetC [zcl_270_0, zcl_270_1]
theorem zmf_270 (l : Launch) : zMf l zc_270 270 := ⟨by decide +kernel, false, (fun h => by cases h), fun pc => zgetC_ok (zA2_c (zmc_270_0 l) (zA2_c (zmc_270_1 l) (zA2_n))) pc⟩
def zcl_271_0 : List (Nat × zmI) := [(0, zm_iload 1 1), (1, zm_call 4 244 1 true 99), (4, zm_ifeq 7 11), (7, zm_iload 8 2), (8, zm_ifge 11 14), (11, zm_push 13 (-2)), (13, zm_iret), (14, zm_aload 15 0), (15, zm_iload 16 1), (16, zm_call 19 272 2 true 12), (19, zm_ifne 22 25), (22, zm_push 24 (-3)), (24, zm_iret), (25, zm_aload 26 0), (26, zm_iload 27 1), (27, zm_call 30 273 2 false 12), (30, zm_iload 31 2), (31, zm_aload 32 0)]
theorem zmc_271_0 (l : Launch) : zAll l "ChessWireModel" prog_14_method_85_code 3 false (some .int) zcl_271_0 :=
  zA_c (zOk_fl zn_iload (zs_iload_n (q := 1) rfl (by decide +kernel))) <|
  zA_c (zk_S zq_244 zw_1456 (by decide +kernel)) <|
  zA_c (zOk_fl zn_ifeq (zs_ifeq (off := 7) (by decide +kernel) (by decide))) <|
  zA_c (zOk_fl zn_iload (zs_iload_n (q := 2) rfl (by decide +kernel))) <|
  zA_c (zOk_fl zn_ifge (zs_ifge (off := 6) (by decide +kernel) (by decide))) <|
  zA_c (zOk_fl zn_push (zs_bipush (n := (-2)) (by decide +kernel) rfl)) <|
  zA_c (zs_iret (by decide +kernel) rfl) <|
  zA_c (zOk_fl zn_aload (zs_aload_n (q := 0) rfl (by decide +kernel))) <|
  zA_c (zOk_fl zn_iload (zs_iload_n (q := 1) rfl (by decide +kernel))) <|
  zA_c (zk_V zq_272 zw_1572 rfl (by decide +kernel)) <|
  zA_c (zOk_fl zn_ifne (zs_ifne (off := 6) (by decide +kernel) (by decide))) <|
  zA_c (zOk_fl zn_push (zs_bipush (n := (-3)) (by decide +kernel) rfl)) <|
  zA_c (zs_iret (by decide +kernel) rfl) <|
  zA_c (zOk_fl zn_aload (zs_aload_n (q := 0) rfl (by decide +kernel))) <|
  zA_c (zOk_fl zn_iload (zs_iload_n (q := 1) rfl (by decide +kernel))) <|
  zA_c (zk_V zq_273 zw_1576 rfl (by decide +kernel)) <|
  zA_c (zOk_fl zn_iload (zs_iload_n (q := 2) rfl (by decide +kernel))) <|
  zA_c (zOk_fl zn_aload (zs_aload_n (q := 0) rfl (by decide +kernel))) <|
  zA_n
def zcl_271_1 : List (Nat × zmI) := [(32, zm_getR 35 12 12), (35, zm_push 36 1), (36, zm_ald 37 100), (37, zm_iclt 40 43), (40, zm_push 42 (-2)), (42, zm_iret), (43, zm_aload 44 0), (44, zm_aload 45 0), (45, zm_getR 48 12 11), (48, zm_push 51 512), (51, zm_iload 52 2), (52, zm_bin 53 (fun x y => w32 (x + y))), (53, zm_ald 54 100), (54, zm_call 57 276 2 false 12), (57, zm_aload 58 0), (58, zm_getI 61 12 24), (61, zm_iret)]
theorem zmc_271_1 (l : Launch) : zAll l "ChessWireModel" prog_14_method_85_code 3 false (some .int) zcl_271_1 :=
  zA_c (zOk_fl zn_getR (zs_getR (k := 12) rfl (by decide) (by decide +kernel) rfl (by decide +kernel) zw_1191)) <|
  zA_c (zOk_fl zn_push (zs_iconst (n := 1) (by decide +kernel) rfl)) <|
  zA_c (zOk_fl zn_ald (zs_iald (by decide +kernel))) <|
  zA_c (zOk_fl zn_iclt (zs_iclt (off := 6) (by decide +kernel) (by decide))) <|
  zA_c (zOk_fl zn_push (zs_bipush (n := (-2)) (by decide +kernel) rfl)) <|
  zA_c (zs_iret (by decide +kernel) rfl) <|
  zA_c (zOk_fl zn_aload (zs_aload_n (q := 0) rfl (by decide +kernel))) <|
  zA_c (zOk_fl zn_aload (zs_aload_n (q := 0) rfl (by decide +kernel))) <|
  zA_c (zOk_fl zn_getR (zs_getR (k := 11) rfl (by decide) (by decide +kernel) rfl (by decide +kernel) zw_1190)) <|
  zA_c (zOk_fl zn_push (zs_sipush (n := 512) (by decide +kernel) rfl)) <|
  zA_c (zOk_fl zn_iload (zs_iload_n (q := 2) rfl (by decide +kernel))) <|
  zA_c (zOk_fl zn_bin (zs_iadd (by decide +kernel))) <|
  zA_c (zOk_fl zn_ald (zs_iald (by decide +kernel))) <|
  zA_c (zk_V zq_276 zw_1588 rfl (by decide +kernel)) <|
  zA_c (zOk_fl zn_aload (zs_aload_n (q := 0) rfl (by decide +kernel))) <|
  zA_c (zOk_fl zn_getI (zs_getI (k := 24) rfl (by decide) (by decide +kernel) rfl (by decide +kernel) zw_1203)) <|
  zA_c (zs_iret (by decide +kernel) rfl) <|
  zA_n
def zc_271 : Nat → zmI := zgetC [zcl_271_0, zcl_271_1]
theorem zmf_271 (l : Launch) : zMf l zc_271 271 := ⟨by decide +kernel, false, (fun h => by cases h), fun pc => zgetC_ok (zA2_c (zmc_271_0 l) (zA2_c (zmc_271_1 l) (zA2_n))) pc⟩
def zcl_272_0 : List (Nat × zmI) := [(0, zm_aload 1 0), (1, zm_push 2 0), (2, zm_iload 3 1), (3, zm_push 5 64), (5, zm_quo 6 z_div), (6, zm_iload 7 1), (7, zm_push 9 64), (9, zm_quo 10 z_rem), (10, zm_call 13 234 4 true 12), (13, zm_zret)]
theorem zmc_272_0 (l : Launch) : zAll l "ChessWireModel" prog_14_method_84_code 2 false (some .boolean) zcl_272_0 :=
  zA_c (zOk_fl zn_aload (zs_aload_n (q := 0) rfl (by decide +kernel))) <|
  zA_c (zOk_fl zn_push (zs_iconst (n := 0) (by decide +kernel) rfl)) <|
  zA_c (zOk_fl zn_iload (zs_iload_n (q := 1) rfl (by decide +kernel))) <|
  zA_c (zOk_fl zn_push (zs_bipush (n := 64) (by decide +kernel) rfl)) <|
  zA_c (zOk_fl zn_quo (zs_idiv (by decide +kernel))) <|
  zA_c (zOk_fl zn_iload (zs_iload_n (q := 1) rfl (by decide +kernel))) <|
  zA_c (zOk_fl zn_push (zs_bipush (n := 64) (by decide +kernel) rfl)) <|
  zA_c (zOk_fl zn_quo (zs_irem (by decide +kernel))) <|
  zA_c (zk_V zq_234 zw_1418 rfl (by decide +kernel)) <|
  zA_c (zs_zret (by decide +kernel) rfl) <|
  zA_n
def zc_272 : Nat → zmI := zgetC [zcl_272_0]
theorem zmf_272 (l : Launch) : zMf l zc_272 272 := ⟨by decide +kernel, false, (fun h => by cases h), fun pc => zgetC_ok (zA2_c (zmc_272_0 l) (zA2_n)) pc⟩
def zcl_273_0 : List (Nat × zmI) := [(0, zm_aload 1 0), (1, zm_push 2 0), (2, zm_iload 3 1), (3, zm_call 6 274 3 false 12), (6, zm_aload 7 0), (7, zm_push 8 1), (8, zm_call 11 232 2 false 12), (11, zm_vret)]
theorem zmc_273_0 (l : Launch) : zAll l "ChessWireModel" prog_14_method_83_code 2 false (none) zcl_273_0 :=
  zA_c (zOk_fl zn_aload (zs_aload_n (q := 0) rfl (by decide +kernel))) <|
  zA_c (zOk_fl zn_push (zs_iconst (n := 0) (by decide +kernel) rfl)) <|
  zA_c (zOk_fl zn_iload (zs_iload_n (q := 1) rfl (by decide +kernel))) <|
  zA_c (zk_V zq_274 zw_1580 rfl (by decide +kernel)) <|
  zA_c (zOk_fl zn_aload (zs_aload_n (q := 0) rfl (by decide +kernel))) <|
  zA_c (zOk_fl zn_push (zs_iconst (n := 1) (by decide +kernel) rfl)) <|
  zA_c (zk_V zq_232 zw_1411 rfl (by decide +kernel)) <|
  zA_c (zs_vret (by decide +kernel) rfl) <|
  zA_n
def zc_273 : Nat → zmI := zgetC [zcl_273_0]
theorem zmf_273 (l : Launch) : zMf l zc_273 273 := ⟨by decide +kernel, false, (fun h => by cases h), fun pc => zgetC_ok (zA2_c (zmc_273_0 l) (zA2_n)) pc⟩
def zcl_274_0 : List (Nat × zmI) := [(0, zm_aload 1 0), (1, zm_iload 2 1), (2, zm_call 5 275 2 false 12), (5, zm_aload 6 0), (6, zm_iload 7 1), (7, zm_push 8 1), (8, zm_bin 9 (fun x y => w32 (x + y))), (9, zm_iload 10 2), (10, zm_call 13 248 3 false 12), (13, zm_vret)]
theorem zmc_274_0 (l : Launch) : zAll l "ChessWireModel" prog_14_method_46_code 3 false (none) zcl_274_0 :=
  zA_c (zOk_fl zn_aload (zs_aload_n (q := 0) rfl (by decide +kernel))) <|
  zA_c (zOk_fl zn_iload (zs_iload_n (q := 1) rfl (by decide +kernel))) <|
  zA_c (zk_V zq_275 zw_1584 rfl (by decide +kernel)) <|
  zA_c (zOk_fl zn_aload (zs_aload_n (q := 0) rfl (by decide +kernel))) <|
  zA_c (zOk_fl zn_iload (zs_iload_n (q := 1) rfl (by decide +kernel))) <|
  zA_c (zOk_fl zn_push (zs_iconst (n := 1) (by decide +kernel) rfl)) <|
  zA_c (zOk_fl zn_bin (zs_iadd (by decide +kernel))) <|
  zA_c (zOk_fl zn_iload (zs_iload_n (q := 2) rfl (by decide +kernel))) <|
  zA_c (zk_V zq_248 zw_1472 rfl (by decide +kernel)) <|
  zA_c (zs_vret (by decide +kernel) rfl) <|
  zA_n
def zc_274 : Nat → zmI := zgetC [zcl_274_0]
theorem zmf_274 (l : Launch) : zMf l zc_274 274 := ⟨by decide +kernel, false, (fun h => by cases h), fun pc => zgetC_ok (zA2_c (zmc_274_0 l) (zA2_n)) pc⟩
def zcl_275_0 : List (Nat × zmI) := [(0, zm_push 1 0), (1, zm_istore 2 2), (2, zm_iload 3 2), (3, zm_push 5 64), (5, zm_icge 8 39), (8, zm_aload 9 0), (9, zm_getR 12 12 8), (12, zm_push 14 64), (14, zm_iload 15 1), (15, zm_bin 16 (fun x y => w32 (x * y))), (16, zm_push 18 64), (18, zm_bin 19 (fun x y => w32 (x + y))), (19, zm_iload 20 2), (20, zm_bin 21 (fun x y => w32 (x + y))), (21, zm_aload 22 0), (22, zm_getR 25 12 8), (25, zm_push 27 64), (27, zm_iload 28 1), (28, zm_bin 29 (fun x y => w32 (x * y))), (29, zm_iload 30 2), (30, zm_bin 31 (fun x y => w32 (x + y))), (31, zm_ald 32 100)]
theorem zmc_275_0 (l : Launch) : zAll l "ChessWireModel" prog_14_method_47_code 3 false (none) zcl_275_0 :=
  zA_c (zOk_fl zn_push (zs_iconst (n := 0) (by decide +kernel) rfl)) <|
  zA_c (zOk_fl zn_istore (zs_istore_n (q := 2) rfl (by decide +kernel))) <|
  zA_c (zOk_fl zn_iload (zs_iload_n (q := 2) rfl (by decide +kernel))) <|
  zA_c (zOk_fl zn_push (zs_bipush (n := 64) (by decide +kernel) rfl)) <|
  zA_c (zOk_fl zn_icge (zs_icge (off := 34) (by decide +kernel) (by decide))) <|
  zA_c (zOk_fl zn_aload (zs_aload_n (q := 0) rfl (by decide +kernel))) <|
  zA_c (zOk_fl zn_getR (zs_getR (k := 8) rfl (by decide) (by decide +kernel) rfl (by decide +kernel) zw_1187)) <|
  zA_c (zOk_fl zn_push (zs_bipush (n := 64) (by decide +kernel) rfl)) <|
  zA_c (zOk_fl zn_iload (zs_iload_n (q := 1) rfl (by decide +kernel))) <|
  zA_c (zOk_fl zn_bin (zs_imul (by decide +kernel))) <|
  zA_c (zOk_fl zn_push (zs_bipush (n := 64) (by decide +kernel) rfl)) <|
  zA_c (zOk_fl zn_bin (zs_iadd (by decide +kernel))) <|
  zA_c (zOk_fl zn_iload (zs_iload_n (q := 2) rfl (by decide +kernel))) <|
  zA_c (zOk_fl zn_bin (zs_iadd (by decide +kernel))) <|
  zA_c (zOk_fl zn_aload (zs_aload_n (q := 0) rfl (by decide +kernel))) <|
  zA_c (zOk_fl zn_getR (zs_getR (k := 8) rfl (by decide) (by decide +kernel) rfl (by decide +kernel) zw_1187)) <|
  zA_c (zOk_fl zn_push (zs_bipush (n := 64) (by decide +kernel) rfl)) <|
  zA_c (zOk_fl zn_iload (zs_iload_n (q := 1) rfl (by decide +kernel))) <|
  zA_c (zOk_fl zn_bin (zs_imul (by decide +kernel))) <|
  zA_c (zOk_fl zn_iload (zs_iload_n (q := 2) rfl (by decide +kernel))) <|
  zA_c (zOk_fl zn_bin (zs_iadd (by decide +kernel))) <|
  zA_c (zOk_fl zn_ald (zs_iald (by decide +kernel))) <|
  zA_n
def zcl_275_1 : List (Nat × zmI) := [(32, zm_iast 33), (33, zm_iinc 36 2 1), (36, zm_goto 2), (39, zm_aload 40 0), (40, zm_getR 43 12 9), (43, zm_iload 44 1), (44, zm_push 45 1), (45, zm_bin 46 (fun x y => w32 (x + y))), (46, zm_aload 47 0), (47, zm_getR 50 12 9), (50, zm_iload 51 1), (51, zm_ald 52 100), (52, zm_iast 53), (53, zm_vret)]
theorem zmc_275_1 (l : Launch) : zAll l "ChessWireModel" prog_14_method_47_code 3 false (none) zcl_275_1 :=
  zA_c (zOk_sn zn_iast (zs_iast (by decide +kernel))) <|
  zA_c (zOk_fl zn_iinc (zs_iinc rfl (by decide +kernel))) <|
  zA_c (zOk_fl zn_goto (zs_goto (off := (-34)) (by decide +kernel) (by decide))) <|
  zA_c (zOk_fl zn_aload (zs_aload_n (q := 0) rfl (by decide +kernel))) <|
  zA_c (zOk_fl zn_getR (zs_getR (k := 9) rfl (by decide) (by decide +kernel) rfl (by decide +kernel) zw_1188)) <|
  zA_c (zOk_fl zn_iload (zs_iload_n (q := 1) rfl (by decide +kernel))) <|
  zA_c (zOk_fl zn_push (zs_iconst (n := 1) (by decide +kernel) rfl)) <|
  zA_c (zOk_fl zn_bin (zs_iadd (by decide +kernel))) <|
  zA_c (zOk_fl zn_aload (zs_aload_n (q := 0) rfl (by decide +kernel))) <|
  zA_c (zOk_fl zn_getR (zs_getR (k := 9) rfl (by decide) (by decide +kernel) rfl (by decide +kernel) zw_1188)) <|
  zA_c (zOk_fl zn_iload (zs_iload_n (q := 1) rfl (by decide +kernel))) <|
  zA_c (zOk_fl zn_ald (zs_iald (by decide +kernel))) <|
  zA_c (zOk_sn zn_iast (zs_iast (by decide +kernel))) <|
  zA_c (zs_vret (by decide +kernel) rfl) <|
  zA_n
def zc_275 : Nat → zmI := zgetC [zcl_275_0, zcl_275_1]
theorem zmf_275 (l : Launch) : zMf l zc_275 275 := ⟨by decide +kernel, false, (fun h => by cases h), fun pc => zgetC_ok (zA2_c (zmc_275_0 l) (zA2_c (zmc_275_1 l) (zA2_n))) pc⟩
def zcl_276_0 : List (Nat × zmI) := [(0, zm_aload 1 0), (1, zm_push 2 1), (2, zm_iload 3 1), (3, zm_call 6 274 3 false 12), (6, zm_aload 7 0), (7, zm_push 8 2), (8, zm_call 11 232 2 false 12), (11, zm_aload 12 0), (12, zm_push 13 (-1)), (13, zm_putI 16 12 24), (16, zm_aload 17 0), (17, zm_push 18 0), (18, zm_putI 21 12 25), (21, zm_push 22 0), (22, zm_istore 23 2), (23, zm_iload 24 2), (24, zm_aload 25 0), (25, zm_getR 28 12 12), (28, zm_push 29 2), (29, zm_ald 30 100), (30, zm_icge 33 90)]
theorem zmc_276_0 (l : Launch) : zAll l "ChessWireModel" prog_14_method_82_code 4 false (none) zcl_276_0 :=
  zA_c (zOk_fl zn_aload (zs_aload_n (q := 0) rfl (by decide +kernel))) <|
  zA_c (zOk_fl zn_push (zs_iconst (n := 1) (by decide +kernel) rfl)) <|
  zA_c (zOk_fl zn_iload (zs_iload_n (q := 1) rfl (by decide +kernel))) <|
  zA_c (zk_V zq_274 zw_1580 rfl (by decide +kernel)) <|
  zA_c (zOk_fl zn_aload (zs_aload_n (q := 0) rfl (by decide +kernel))) <|
  zA_c (zOk_fl zn_push (zs_iconst (n := 2) (by decide +kernel) rfl)) <|
  zA_c (zk_V zq_232 zw_1411 rfl (by decide +kernel)) <|
  zA_c (zOk_fl zn_aload (zs_aload_n (q := 0) rfl (by decide +kernel))) <|
  zA_c (zOk_fl zn_push (zs_iconst (n := (-1)) (by decide +kernel) rfl)) <|
  zA_c (zOk_sn zn_putI (zs_putI (k := 24) rfl (by decide) (by decide +kernel) rfl rfl (by decide +kernel) zw_1203)) <|
  zA_c (zOk_fl zn_aload (zs_aload_n (q := 0) rfl (by decide +kernel))) <|
  zA_c (zOk_fl zn_push (zs_iconst (n := 0) (by decide +kernel) rfl)) <|
  zA_c (zOk_sn zn_putI (zs_putI (k := 25) rfl (by decide) (by decide +kernel) rfl rfl (by decide +kernel) zw_1204)) <|
  zA_c (zOk_fl zn_push (zs_iconst (n := 0) (by decide +kernel) rfl)) <|
  zA_c (zOk_fl zn_istore (zs_istore_n (q := 2) rfl (by decide +kernel))) <|
  zA_c (zOk_fl zn_iload (zs_iload_n (q := 2) rfl (by decide +kernel))) <|
  zA_c (zOk_fl zn_aload (zs_aload_n (q := 0) rfl (by decide +kernel))) <|
  zA_c (zOk_fl zn_getR (zs_getR (k := 12) rfl (by decide) (by decide +kernel) rfl (by decide +kernel) zw_1191)) <|
  zA_c (zOk_fl zn_push (zs_iconst (n := 2) (by decide +kernel) rfl)) <|
  zA_c (zOk_fl zn_ald (zs_iald (by decide +kernel))) <|
  zA_c (zOk_fl zn_icge (zs_icge (off := 60) (by decide +kernel) (by decide))) <|
  zA_n
def zcl_276_1 : List (Nat × zmI) := [(33, zm_aload 34 0), (34, zm_push 35 2), (35, zm_aload 36 0), (36, zm_getR 39 12 11), (39, zm_push 42 1024), (42, zm_iload 43 2), (43, zm_bin 44 (fun x y => w32 (x + y))), (44, zm_ald 45 100), (45, zm_call 48 253 3 true 12), (48, zm_istore 49 3), (49, zm_aload 50 0), (50, zm_getI 53 12 24), (53, zm_push 54 (-1)), (54, zm_iceq 57 65), (57, zm_iload 58 3), (58, zm_aload 59 0), (59, zm_getI 62 12 25), (62, zm_icge 65 84)]
theorem zmc_276_1 (l : Launch) : zAll l "ChessWireModel" prog_14_method_82_code 4 false (none) zcl_276_1 :=
  zA_c (zOk_fl zn_aload (zs_aload_n (q := 0) rfl (by decide +kernel))) <|
  zA_c (zOk_fl zn_push (zs_iconst (n := 2) (by decide +kernel) rfl)) <|
  zA_c (zOk_fl zn_aload (zs_aload_n (q := 0) rfl (by decide +kernel))) <|
  zA_c (zOk_fl zn_getR (zs_getR (k := 11) rfl (by decide) (by decide +kernel) rfl (by decide +kernel) zw_1190)) <|
  zA_c (zOk_fl zn_push (zs_sipush (n := 1024) (by decide +kernel) rfl)) <|
  zA_c (zOk_fl zn_iload (zs_iload_n (q := 2) rfl (by decide +kernel))) <|
  zA_c (zOk_fl zn_bin (zs_iadd (by decide +kernel))) <|
  zA_c (zOk_fl zn_ald (zs_iald (by decide +kernel))) <|
  zA_c (zk_V zq_253 zw_1493 rfl (by decide +kernel)) <|
  zA_c (zOk_fl zn_istore (zs_istore_n (q := 3) rfl (by decide +kernel))) <|
  zA_c (zOk_fl zn_aload (zs_aload_n (q := 0) rfl (by decide +kernel))) <|
  zA_c (zOk_fl zn_getI (zs_getI (k := 24) rfl (by decide) (by decide +kernel) rfl (by decide +kernel) zw_1203)) <|
  zA_c (zOk_fl zn_push (zs_iconst (n := (-1)) (by decide +kernel) rfl)) <|
  zA_c (zOk_fl zn_iceq (zs_iceq (off := 11) (by decide +kernel) (by decide))) <|
  zA_c (zOk_fl zn_iload (zs_iload_n (q := 3) rfl (by decide +kernel))) <|
  zA_c (zOk_fl zn_aload (zs_aload_n (q := 0) rfl (by decide +kernel))) <|
  zA_c (zOk_fl zn_getI (zs_getI (k := 25) rfl (by decide) (by decide +kernel) rfl (by decide +kernel) zw_1204)) <|
  zA_c (zOk_fl zn_icge (zs_icge (off := 22) (by decide +kernel) (by decide))) <|
  zA_n
def zcl_276_2 : List (Nat × zmI) := [(65, zm_aload 66 0), (66, zm_aload 67 0), (67, zm_getR 70 12 11), (70, zm_push 73 1024), (73, zm_iload 74 2), (74, zm_bin 75 (fun x y => w32 (x + y))), (75, zm_ald 76 100), (76, zm_putI 79 12 24), (79, zm_aload 80 0), (80, zm_iload 81 3), (81, zm_putI 84 12 25), (84, zm_iinc 87 2 1), (87, zm_goto 23), (90, zm_vret)]
theorem zmc_276_2 (l : Launch) : zAll l "ChessWireModel" prog_14_method_82_code 4 false (none) zcl_276_2 :=
  zA_c (zOk_fl zn_aload (zs_aload_n (q := 0) rfl (by decide +kernel))) <|
  zA_c (zOk_fl zn_aload (zs_aload_n (q := 0) rfl (by decide +kernel))) <|
  zA_c (zOk_fl zn_getR (zs_getR (k := 11) rfl (by decide) (by decide +kernel) rfl (by decide +kernel) zw_1190)) <|
  zA_c (zOk_fl zn_push (zs_sipush (n := 1024) (by decide +kernel) rfl)) <|
  zA_c (zOk_fl zn_iload (zs_iload_n (q := 2) rfl (by decide +kernel))) <|
  zA_c (zOk_fl zn_bin (zs_iadd (by decide +kernel))) <|
  zA_c (zOk_fl zn_ald (zs_iald (by decide +kernel))) <|
  zA_c (zOk_sn zn_putI (zs_putI (k := 24) rfl (by decide) (by decide +kernel) rfl rfl (by decide +kernel) zw_1203)) <|
  zA_c (zOk_fl zn_aload (zs_aload_n (q := 0) rfl (by decide +kernel))) <|
  zA_c (zOk_fl zn_iload (zs_iload_n (q := 3) rfl (by decide +kernel))) <|
  zA_c (zOk_sn zn_putI (zs_putI (k := 25) rfl (by decide) (by decide +kernel) rfl rfl (by decide +kernel) zw_1204)) <|
  zA_c (zOk_fl zn_iinc (zs_iinc rfl (by decide +kernel))) <|
  zA_c (zOk_fl zn_goto (zs_goto (off := (-64)) (by decide +kernel) (by decide))) <|
  zA_c (zs_vret (by decide +kernel) rfl) <|
  zA_n
def zc_276 : Nat → zmI := zgetC [zcl_276_0, zcl_276_1, zcl_276_2]
theorem zmf_276 (l : Launch) : zMf l zc_276 276 := ⟨by decide +kernel, false, (fun h => by cases h), fun pc => zgetC_ok (zA2_c (zmc_276_0 l) (zA2_c (zmc_276_1 l) (zA2_c (zmc_276_2 l) (zA2_n)))) pc⟩
def zcl_277_0 : List (Nat × zmI) := [(0, zm_iload 1 1), (1, zm_call 4 244 1 true 99), (4, zm_ifeq 7 26), (7, zm_iload 8 2), (8, zm_iflt 11 26), (11, zm_iload 12 3), (12, zm_call 15 278 1 true 99), (15, zm_ifeq 18 26), (18, zm_iload 20 4), (20, zm_call 23 279 1 true 99), (23, zm_ifne 26 32), (26, zm_push 28 (-2)), (28, zm_call 31 280 1 true 99), (31, zm_lret)]
theorem zmc_277_0 (l : Launch) : zAll l "ChessWireModel" prog_14_method_90_code 6 false (some .long) zcl_277_0 :=
  zA_c (zOk_fl zn_iload (zs_iload_n (q := 1) rfl (by decide +kernel))) <|
  zA_c (zk_S zq_244 zw_1456 (by decide +kernel)) <|
  zA_c (zOk_fl zn_ifeq (zs_ifeq (off := 22) (by decide +kernel) (by decide))) <|
  zA_c (zOk_fl zn_iload (zs_iload_n (q := 2) rfl (by decide +kernel))) <|
  zA_c (zOk_fl zn_iflt (zs_iflt (off := 18) (by decide +kernel) (by decide))) <|
  zA_c (zOk_fl zn_iload (zs_iload_n (q := 3) rfl (by decide +kernel))) <|
  zA_c (zk_S zq_278 zw_1596 (by decide +kernel)) <|
  zA_c (zOk_fl zn_ifeq (zs_ifeq (off := 11) (by decide +kernel) (by decide))) <|
  zA_c (zOk_fl zn_iload (zs_iload (by decide +kernel))) <|
  zA_c (zk_S zq_279 zw_1600 (by decide +kernel)) <|
  zA_c (zOk_fl zn_ifne (zs_ifne (off := 9) (by decide +kernel) (by decide))) <|
  zA_c (zOk_fl zn_push (zs_bipush (n := (-2)) (by decide +kernel) rfl)) <|
  zA_c (zk_S zq_280 zw_1603 (by decide +kernel)) <|
  zA_c (zs_lret (by decide +kernel) rfl) <|
  zA_n
def zcl_277_1 : List (Nat × zmI) := [(32, zm_aload 33 0), (33, zm_iload 34 1), (34, zm_call 37 272 2 true 12), (37, zm_ifne 40 46), (40, zm_push 42 (-3)), (42, zm_call 45 280 1 true 99), (45, zm_lret), (46, zm_aload 47 0), (47, zm_iload 48 1), (48, zm_call 51 273 2 false 12), (51, zm_iload 52 2), (52, zm_aload 53 0), (53, zm_getR 56 12 12), (56, zm_push 57 1), (57, zm_ald 58 100), (58, zm_iclt 61 67), (61, zm_push 63 (-2)), (63, zm_call 66 280 1 true 99)]
theorem zmc_277_1 (l : Launch) : zAll l "ChessWireModel" prog_14_method_90_code 6 false (some .long) zcl_277_1 :=
  zA_c (zOk_fl zn_aload (zs_aload_n (q := 0) rfl (by decide +kernel))) <|
  zA_c (zOk_fl zn_iload (zs_iload_n (q := 1) rfl (by decide +kernel))) <|
  zA_c (zk_V zq_272 zw_1572 rfl (by decide +kernel)) <|
  zA_c (zOk_fl zn_ifne (zs_ifne (off := 9) (by decide +kernel) (by decide))) <|
  zA_c (zOk_fl zn_push (zs_bipush (n := (-3)) (by decide +kernel) rfl)) <|
  zA_c (zk_S zq_280 zw_1603 (by decide +kernel)) <|
  zA_c (zs_lret (by decide +kernel) rfl) <|
  zA_c (zOk_fl zn_aload (zs_aload_n (q := 0) rfl (by decide +kernel))) <|
  zA_c (zOk_fl zn_iload (zs_iload_n (q := 1) rfl (by decide +kernel))) <|
  zA_c (zk_V zq_273 zw_1576 rfl (by decide +kernel)) <|
  zA_c (zOk_fl zn_iload (zs_iload_n (q := 2) rfl (by decide +kernel))) <|
  zA_c (zOk_fl zn_aload (zs_aload_n (q := 0) rfl (by decide +kernel))) <|
  zA_c (zOk_fl zn_getR (zs_getR (k := 12) rfl (by decide) (by decide +kernel) rfl (by decide +kernel) zw_1191)) <|
  zA_c (zOk_fl zn_push (zs_iconst (n := 1) (by decide +kernel) rfl)) <|
  zA_c (zOk_fl zn_ald (zs_iald (by decide +kernel))) <|
  zA_c (zOk_fl zn_iclt (zs_iclt (off := 9) (by decide +kernel) (by decide))) <|
  zA_c (zOk_fl zn_push (zs_bipush (n := (-2)) (by decide +kernel) rfl)) <|
  zA_c (zk_S zq_280 zw_1603 (by decide +kernel)) <|
  zA_n
def zcl_277_2 : List (Nat × zmI) := [(66, zm_lret), (67, zm_aload 68 0), (68, zm_aload 69 0), (69, zm_getR 72 12 11), (72, zm_push 75 512), (75, zm_iload 76 2), (76, zm_bin 77 (fun x y => w32 (x + y))), (77, zm_ald 78 100), (78, zm_call 81 276 2 false 12), (81, zm_aload 82 0), (82, zm_getI 85 12 24), (85, zm_push 86 (-1)), (86, zm_icne 89 95), (89, zm_push 91 (-3)), (91, zm_call 94 280 1 true 99), (94, zm_lret), (95, zm_aload 96 0)]
theorem zmc_277_2 (l : Launch) : zAll l "ChessWireModel" prog_14_method_90_code 6 false (some .long) zcl_277_2 :=
  zA_c (zs_lret (by decide +kernel) rfl) <|
  zA_c (zOk_fl zn_aload (zs_aload_n (q := 0) rfl (by decide +kernel))) <|
  zA_c (zOk_fl zn_aload (zs_aload_n (q := 0) rfl (by decide +kernel))) <|
  zA_c (zOk_fl zn_getR (zs_getR (k := 11) rfl (by decide) (by decide +kernel) rfl (by decide +kernel) zw_1190)) <|
  zA_c (zOk_fl zn_push (zs_sipush (n := 512) (by decide +kernel) rfl)) <|
  zA_c (zOk_fl zn_iload (zs_iload_n (q := 2) rfl (by decide +kernel))) <|
  zA_c (zOk_fl zn_bin (zs_iadd (by decide +kernel))) <|
  zA_c (zOk_fl zn_ald (zs_iald (by decide +kernel))) <|
  zA_c (zk_V zq_276 zw_1588 rfl (by decide +kernel)) <|
  zA_c (zOk_fl zn_aload (zs_aload_n (q := 0) rfl (by decide +kernel))) <|
  zA_c (zOk_fl zn_getI (zs_getI (k := 24) rfl (by decide) (by decide +kernel) rfl (by decide +kernel) zw_1203)) <|
  zA_c (zOk_fl zn_push (zs_iconst (n := (-1)) (by decide +kernel) rfl)) <|
  zA_c (zOk_fl zn_icne (zs_icne (off := 9) (by decide +kernel) (by decide))) <|
  zA_c (zOk_fl zn_push (zs_bipush (n := (-3)) (by decide +kernel) rfl)) <|
  zA_c (zk_S zq_280 zw_1603 (by decide +kernel)) <|
  zA_c (zs_lret (by decide +kernel) rfl) <|
  zA_c (zOk_fl zn_aload (zs_aload_n (q := 0) rfl (by decide +kernel))) <|
  zA_n
def zcl_277_3 : List (Nat × zmI) := [(96, zm_call 99 281 1 true 12), (99, zm_istore 101 5), (101, zm_aload 102 0), (102, zm_aload 103 0), (103, zm_getR 106 12 11), (106, zm_push 109 512), (109, zm_iload 110 2), (110, zm_bin 111 (fun x y => w32 (x + y))), (111, zm_ald 112 100), (112, zm_iload 113 3), (113, zm_iload 115 5), (115, zm_call 118 282 4 true 12), (118, zm_i2l 119), (119, zm_iload 121 5), (121, zm_ifne 124 128), (124, zm_pushl 125 1), (125, zm_goto 131)]
theorem zmc_277_3 (l : Launch) : zAll l "ChessWireModel" prog_14_method_90_code 6 false (some .long) zcl_277_3 :=
  zA_c (zk_V zq_281 zw_1607 rfl (by decide +kernel)) <|
  zA_c (zOk_fl zn_istore (zs_istore (by decide +kernel))) <|
  zA_c (zOk_fl zn_aload (zs_aload_n (q := 0) rfl (by decide +kernel))) <|
  zA_c (zOk_fl zn_aload (zs_aload_n (q := 0) rfl (by decide +kernel))) <|
  zA_c (zOk_fl zn_getR (zs_getR (k := 11) rfl (by decide) (by decide +kernel) rfl (by decide +kernel) zw_1190)) <|
  zA_c (zOk_fl zn_push (zs_sipush (n := 512) (by decide +kernel) rfl)) <|
  zA_c (zOk_fl zn_iload (zs_iload_n (q := 2) rfl (by decide +kernel))) <|
  zA_c (zOk_fl zn_bin (zs_iadd (by decide +kernel))) <|
  zA_c (zOk_fl zn_ald (zs_iald (by decide +kernel))) <|
  zA_c (zOk_fl zn_iload (zs_iload_n (q := 3) rfl (by decide +kernel))) <|
  zA_c (zOk_fl zn_iload (zs_iload (by decide +kernel))) <|
  zA_c (zk_V zq_282 zw_1611 rfl (by decide +kernel)) <|
  zA_c (zOk_fl zn_i2l (zs_i2l (by decide +kernel))) <|
  zA_c (zOk_fl zn_iload (zs_iload (by decide +kernel))) <|
  zA_c (zOk_fl zn_ifne (zs_ifne (off := 7) (by decide +kernel) (by decide))) <|
  zA_c (zOk_fl zn_pushl (zs_lconst (n := 1) (by decide +kernel) rfl)) <|
  zA_c (zOk_fl zn_goto (zs_goto (off := 6) (by decide +kernel) (by decide))) <|
  zA_n
def zcl_277_4 : List (Nat × zmI) := [(128, zm_iload 130 5), (130, zm_i2l 131), (131, zm_iload 133 4), (133, zm_call 136 283 3 true 99), (136, zm_lret)]
theorem zmc_277_4 (l : Launch) : zAll l "ChessWireModel" prog_14_method_90_code 6 false (some .long) zcl_277_4 :=
  zA_c (zOk_fl zn_iload (zs_iload (by decide +kernel))) <|
  zA_c (zOk_fl zn_i2l (zs_i2l (by decide +kernel))) <|
  zA_c (zOk_fl zn_iload (zs_iload (by decide +kernel))) <|
  zA_c (zk_S zq_283 zw_1615 (by decide +kernel)) <|
  zA_c (zs_lret (by decide +kernel) rfl) <|
  zA_n
def zc_277 : Nat → zmI := zgetC [zcl_277_0, zcl_277_1, zcl_277_2, zcl_277_3, zcl_277_4]
theorem zmf_277 (l : Launch) : zMf l zc_277 277 := ⟨by decide +kernel, false, (fun h => by cases h), fun pc => zgetC_ok (zA2_c (zmc_277_0 l) (zA2_c (zmc_277_1 l) (zA2_c (zmc_277_2 l) (zA2_c (zmc_277_3 l) (zA2_c (zmc_277_4 l) (zA2_n)))))) pc⟩
def zcl_278_0 : List (Nat × zmI) := [(0, zm_iload 1 0), (1, zm_i2l 2), (2, zm_pushl 3 0), (3, zm_pushl 6 99), (6, zm_call 9 201 3 true 99), (9, zm_zret)]
theorem zmc_278_0 (l : Launch) : zAll l "ChessWireModel" prog_14_method_89_code 1 false (some .boolean) zcl_278_0 :=
  zA_c (zOk_fl zn_iload (zs_iload_n (q := 0) rfl (by decide +kernel))) <|
  zA_c (zOk_fl zn_i2l (zs_i2l (by decide +kernel))) <|
  zA_c (zOk_fl zn_pushl (zs_lconst (n := 0) (by decide +kernel) rfl)) <|
  zA_c (zOk_fl zn_pushl (zs_ldc2 (by decide +kernel) zw_1599 rfl)) <|
  zA_c (zk_S zq_201 zw_1172 (by decide +kernel)) <|
  zA_c (zs_zret (by decide +kernel) rfl) <|
  zA_n
def zc_278 : Nat → zmI := zgetC [zcl_278_0]
theorem zmf_278 (l : Launch) : zMf l zc_278 278 := ⟨by decide +kernel, false, (fun h => by cases h), fun pc => zgetC_ok (zA2_c (zmc_278_0 l) (zA2_n)) pc⟩
def zcl_279_0 : List (Nat × zmI) := [(0, zm_iload 1 0), (1, zm_i2l 2), (2, zm_pushl 3 0), (3, zm_pushl 4 1), (4, zm_call 7 201 3 true 99), (7, zm_zret)]
theorem zmc_279_0 (l : Launch) : zAll l "ChessWireModel" prog_14_method_5_code 1 false (some .boolean) zcl_279_0 :=
  zA_c (zOk_fl zn_iload (zs_iload_n (q := 0) rfl (by decide +kernel))) <|
  zA_c (zOk_fl zn_i2l (zs_i2l (by decide +kernel))) <|
  zA_c (zOk_fl zn_pushl (zs_lconst (n := 0) (by decide +kernel) rfl)) <|
  zA_c (zOk_fl zn_pushl (zs_lconst (n := 1) (by decide +kernel) rfl)) <|
  zA_c (zk_S zq_201 zw_1172 (by decide +kernel)) <|
  zA_c (zs_zret (by decide +kernel) rfl) <|
  zA_n
def zc_279 : Nat → zmI := zgetC [zcl_279_0]
theorem zmf_279 (l : Launch) : zMf l zc_279 279 := ⟨by decide +kernel, false, (fun h => by cases h), fun pc => zgetC_ok (zA2_c (zmc_279_0 l) (zA2_n)) pc⟩
def zcl_280_0 : List (Nat × zmI) := [(0, zm_pushl 3 (-9223372036854775808)), (3, zm_iload 4 0), (4, zm_i2l 5), (5, zm_binl 6 (fun x y => w64 (x - y))), (6, zm_lret)]
theorem zmc_280_0 (l : Launch) : zAll l "ChessWireModel" prog_14_method_4_code 1 false (some .long) zcl_280_0 :=
  zA_c (zOk_fl zn_pushl (zs_ldc2 (by decide +kernel) zw_1606 rfl)) <|
  zA_c (zOk_fl zn_iload (zs_iload_n (q := 0) rfl (by decide +kernel))) <|
  zA_c (zOk_fl zn_i2l (zs_i2l (by decide +kernel))) <|
  zA_c (zOk_fl zn_binl (zs_lsub (by decide +kernel))) <|
  zA_c (zs_lret (by decide +kernel) rfl) <|
  zA_n
def zc_280 : Nat → zmI := zgetC [zcl_280_0]
theorem zmf_280 (l : Launch) : zMf l zc_280 280 := ⟨by decide +kernel, false, (fun h => by cases h), fun pc => zgetC_ok (zA2_c (zmc_280_0 l) (zA2_n)) pc⟩
def zcl_281_0 : List (Nat × zmI) := [(0, zm_push 1 0), (1, zm_istore 2 1), (2, zm_push 3 0), (3, zm_istore 4 2), (4, zm_iload 5 2), (5, zm_aload 6 0), (6, zm_getR 9 12 12), (9, zm_push 10 1), (10, zm_ald 11 100), (11, zm_icge 14 38), (14, zm_iload 15 1), (15, zm_aload 16 0), (16, zm_push 17 1), (17, zm_aload 18 0), (18, zm_getR 21 12 11), (21, zm_push 24 512), (24, zm_iload 25 2), (25, zm_bin 26 (fun x y => w32 (x + y))), (26, zm_ald 27 100), (27, zm_call 30 269 3 true 12), (30, zm_bin 31 (fun x y => w32 (x + y))), (31, zm_istore 32 1)]
theorem zmc_281_0 (l : Launch) : zAll l "ChessWireModel" prog_14_method_86_code 3 false (some .int) zcl_281_0 :=
  zA_c (zOk_fl zn_push (zs_iconst (n := 0) (by decide +kernel) rfl)) <|
  zA_c (zOk_fl zn_istore (zs_istore_n (q := 1) rfl (by decide +kernel))) <|
  zA_c (zOk_fl zn_push (zs_iconst (n := 0) (by decide +kernel) rfl)) <|
  zA_c (zOk_fl zn_istore (zs_istore_n (q := 2) rfl (by decide +kernel))) <|
  zA_c (zOk_fl zn_iload (zs_iload_n (q := 2) rfl (by decide +kernel))) <|
  zA_c (zOk_fl zn_aload (zs_aload_n (q := 0) rfl (by decide +kernel))) <|
  zA_c (zOk_fl zn_getR (zs_getR (k := 12) rfl (by decide) (by decide +kernel) rfl (by decide +kernel) zw_1191)) <|
  zA_c (zOk_fl zn_push (zs_iconst (n := 1) (by decide +kernel) rfl)) <|
  zA_c (zOk_fl zn_ald (zs_iald (by decide +kernel))) <|
  zA_c (zOk_fl zn_icge (zs_icge (off := 27) (by decide +kernel) (by decide))) <|
  zA_c (zOk_fl zn_iload (zs_iload_n (q := 1) rfl (by decide +kernel))) <|
  zA_c (zOk_fl zn_aload (zs_aload_n (q := 0) rfl (by decide +kernel))) <|
  zA_c (zOk_fl zn_push (zs_iconst (n := 1) (by decide +kernel) rfl)) <|
  zA_c (zOk_fl zn_aload (zs_aload_n (q := 0) rfl (by decide +kernel))) <|
  zA_c (zOk_fl zn_getR (zs_getR (k := 11) rfl (by decide) (by decide +kernel) rfl (by decide +kernel) zw_1190)) <|
  zA_c (zOk_fl zn_push (zs_sipush (n := 512) (by decide +kernel) rfl)) <|
  zA_c (zOk_fl zn_iload (zs_iload_n (q := 2) rfl (by decide +kernel))) <|
  zA_c (zOk_fl zn_bin (zs_iadd (by decide +kernel))) <|
  zA_c (zOk_fl zn_ald (zs_iald (by decide +kernel))) <|
  zA_c (zk_V zq_269 zw_1560 rfl (by decide +kernel)) <|
  zA_c (zOk_fl zn_bin (zs_iadd (by decide +kernel))) <|
  zA_c (zOk_fl zn_istore (zs_istore_n (q := 1) rfl (by decide +kernel))) <|
  zA_n
def zcl_281_1 : List (Nat × zmI) := [(32, zm_iinc 35 2 1), (35, zm_goto 4), (38, zm_iload 39 1), (39, zm_iret)]
theorem zmc_281_1 (l : Launch) : zAll l "ChessWireModel" prog_14_method_86_code 3 false (some .int) zcl_281_1 :=
  zA_c (zOk_fl zn_iinc (zs_iinc rfl (by decide +kernel))) <|
  zA_c (zOk_fl zn_goto (zs_goto (off := (-31)) (by decide +kernel) (by decide))) <|
  zA_c (zOk_fl zn_iload (zs_iload_n (q := 1) rfl (by decide +kernel))) <|
  zA_c (zs_iret (by decide +kernel) rfl) <|
  zA_n
def zc_281 : Nat → zmI := zgetC [zcl_281_0, zcl_281_1]
theorem zmf_281 (l : Launch) : zMf l zc_281 281 := ⟨by decide +kernel, false, (fun h => by cases h), fun pc => zgetC_ok (zA2_c (zmc_281_0 l) (zA2_c (zmc_281_1 l) (zA2_n))) pc⟩
def zcl_282_0 : List (Nat × zmI) := [(0, zm_aload 1 0), (1, zm_push 2 1), (2, zm_iload 3 1), (3, zm_call 6 253 3 true 12), (6, zm_aload 7 0), (7, zm_getI 10 12 25), (10, zm_bin 11 (fun x y => w32 (x + y))), (11, zm_istore 13 4), (13, zm_iload 14 3), (14, zm_ifne 17 23), (17, zm_iload 19 4), (19, zm_un 20 (fun x => w32 (-x))), (20, zm_goto 41), (23, zm_aload 24 0), (24, zm_push 25 1), (25, zm_iload 26 1), (26, zm_call 29 269 3 true 12), (29, zm_iload 30 2), (30, zm_aload 31 0), (31, zm_getI 34 12 25)]
theorem zmc_282_0 (l : Launch) : zAll l "ChessWireModel" prog_14_method_87_code 5 false (some .int) zcl_282_0 :=
  zA_c (zOk_fl zn_aload (zs_aload_n (q := 0) rfl (by decide +kernel))) <|
  zA_c (zOk_fl zn_push (zs_iconst (n := 1) (by decide +kernel) rfl)) <|
  zA_c (zOk_fl zn_iload (zs_iload_n (q := 1) rfl (by decide +kernel))) <|
  zA_c (zk_V zq_253 zw_1493 rfl (by decide +kernel)) <|
  zA_c (zOk_fl zn_aload (zs_aload_n (q := 0) rfl (by decide +kernel))) <|
  zA_c (zOk_fl zn_getI (zs_getI (k := 25) rfl (by decide) (by decide +kernel) rfl (by decide +kernel) zw_1204)) <|
  zA_c (zOk_fl zn_bin (zs_iadd (by decide +kernel))) <|
  zA_c (zOk_fl zn_istore (zs_istore (by decide +kernel))) <|
  zA_c (zOk_fl zn_iload (zs_iload_n (q := 3) rfl (by decide +kernel))) <|
  zA_c (zOk_fl zn_ifne (zs_ifne (off := 9) (by decide +kernel) (by decide))) <|
  zA_c (zOk_fl zn_iload (zs_iload (by decide +kernel))) <|
  zA_c (zOk_fl zn_un (zs_ineg (by decide +kernel))) <|
  zA_c (zOk_fl zn_goto (zs_goto (off := 21) (by decide +kernel) (by decide))) <|
  zA_c (zOk_fl zn_aload (zs_aload_n (q := 0) rfl (by decide +kernel))) <|
  zA_c (zOk_fl zn_push (zs_iconst (n := 1) (by decide +kernel) rfl)) <|
  zA_c (zOk_fl zn_iload (zs_iload_n (q := 1) rfl (by decide +kernel))) <|
  zA_c (zk_V zq_269 zw_1560 rfl (by decide +kernel)) <|
  zA_c (zOk_fl zn_iload (zs_iload_n (q := 2) rfl (by decide +kernel))) <|
  zA_c (zOk_fl zn_aload (zs_aload_n (q := 0) rfl (by decide +kernel))) <|
  zA_c (zOk_fl zn_getI (zs_getI (k := 25) rfl (by decide) (by decide +kernel) rfl (by decide +kernel) zw_1204)) <|
  zA_n
def zcl_282_1 : List (Nat × zmI) := [(34, zm_bin 35 (fun x y => w32 (x + y))), (35, zm_bin 36 (fun x y => w32 (x * y))), (36, zm_iload 38 4), (38, zm_iload 39 3), (39, zm_bin 40 (fun x y => w32 (x * y))), (40, zm_bin 41 (fun x y => w32 (x - y))), (41, zm_iret)]
theorem zmc_282_1 (l : Launch) : zAll l "ChessWireModel" prog_14_method_87_code 5 false (some .int) zcl_282_1 :=
  zA_c (zOk_fl zn_bin (zs_iadd (by decide +kernel))) <|
  zA_c (zOk_fl zn_bin (zs_imul (by decide +kernel))) <|
  zA_c (zOk_fl zn_iload (zs_iload (by decide +kernel))) <|
  zA_c (zOk_fl zn_iload (zs_iload_n (q := 3) rfl (by decide +kernel))) <|
  zA_c (zOk_fl zn_bin (zs_imul (by decide +kernel))) <|
  zA_c (zOk_fl zn_bin (zs_isub (by decide +kernel))) <|
  zA_c (zs_iret (by decide +kernel) rfl) <|
  zA_n
def zc_282 : Nat → zmI := zgetC [zcl_282_0, zcl_282_1]
theorem zmf_282 (l : Launch) : zMf l zc_282 282 := ⟨by decide +kernel, false, (fun h => by cases h), fun pc => zgetC_ok (zA2_c (zmc_282_0 l) (zA2_c (zmc_282_1 l) (zA2_n))) pc⟩
def zcl_283_0 : List (Nat × zmI) := [(0, zm_lload 1 0), (1, zm_pushl 2 0), (2, zm_lcmp 3), (3, zm_ifge 6 11), (6, zm_lload 7 0), (7, zm_unl 8 (fun x => w64 (-x))), (8, zm_goto 12), (11, zm_lload 12 0), (12, zm_lstore 14 5), (14, zm_lload 15 2), (15, zm_lstore 17 7), (17, zm_lload 19 7), (19, zm_pushl 20 0), (20, zm_lcmp 21), (21, zm_ifeq 24 42), (24, zm_lload 26 5), (26, zm_lload 28 7), (28, zm_quol 29 z_reml), (29, zm_lstore 31 9), (31, zm_lload 33 7)]
theorem zmc_283_0 (l : Launch) : zAll l "ChessWireModel" prog_14_method_88_code 11 false (some .long) zcl_283_0 :=
  zA_c (zOk_fl zn_lload (zs_lload_n (q := 0) rfl (by decide +kernel))) <|
  zA_c (zOk_fl zn_pushl (zs_lconst (n := 0) (by decide +kernel) rfl)) <|
  zA_c (zOk_fl zn_lcmp (zs_lcmp (by decide +kernel))) <|
  zA_c (zOk_fl zn_ifge (zs_ifge (off := 8) (by decide +kernel) (by decide))) <|
  zA_c (zOk_fl zn_lload (zs_lload_n (q := 0) rfl (by decide +kernel))) <|
  zA_c (zOk_fl zn_unl (zs_lneg (by decide +kernel))) <|
  zA_c (zOk_fl zn_goto (zs_goto (off := 4) (by decide +kernel) (by decide))) <|
  zA_c (zOk_fl zn_lload (zs_lload_n (q := 0) rfl (by decide +kernel))) <|
  zA_c (zOk_fl zn_lstore (zs_lstore (by decide +kernel))) <|
  zA_c (zOk_fl zn_lload (zs_lload_n (q := 2) rfl (by decide +kernel))) <|
  zA_c (zOk_fl zn_lstore (zs_lstore (by decide +kernel))) <|
  zA_c (zOk_fl zn_lload (zs_lload (by decide +kernel))) <|
  zA_c (zOk_fl zn_pushl (zs_lconst (n := 0) (by decide +kernel) rfl)) <|
  zA_c (zOk_fl zn_lcmp (zs_lcmp (by decide +kernel))) <|
  zA_c (zOk_fl zn_ifeq (zs_ifeq (off := 21) (by decide +kernel) (by decide))) <|
  zA_c (zOk_fl zn_lload (zs_lload (by decide +kernel))) <|
  zA_c (zOk_fl zn_lload (zs_lload (by decide +kernel))) <|
  zA_c (zOk_fl zn_quol (zs_lrem (by decide +kernel))) <|
  zA_c (zOk_fl zn_lstore (zs_lstore (by decide +kernel))) <|
  zA_c (zOk_fl zn_lload (zs_lload (by decide +kernel))) <|
  zA_n
def zcl_283_1 : List (Nat × zmI) := [(33, zm_lstore 35 5), (35, zm_lload 37 9), (37, zm_lstore 39 7), (39, zm_goto 17), (42, zm_iload 44 4), (44, zm_ifne 47 51), (47, zm_lload 48 0), (48, zm_goto 52), (51, zm_lload 52 2), (52, zm_lload 54 5), (54, zm_quol 55 z_divl), (55, zm_lret)]
theorem zmc_283_1 (l : Launch) : zAll l "ChessWireModel" prog_14_method_88_code 11 false (some .long) zcl_283_1 :=
  zA_c (zOk_fl zn_lstore (zs_lstore (by decide +kernel))) <|
  zA_c (zOk_fl zn_lload (zs_lload (by decide +kernel))) <|
  zA_c (zOk_fl zn_lstore (zs_lstore (by decide +kernel))) <|
  zA_c (zOk_fl zn_goto (zs_goto (off := (-22)) (by decide +kernel) (by decide))) <|
  zA_c (zOk_fl zn_iload (zs_iload (by decide +kernel))) <|
  zA_c (zOk_fl zn_ifne (zs_ifne (off := 7) (by decide +kernel) (by decide))) <|
  zA_c (zOk_fl zn_lload (zs_lload_n (q := 0) rfl (by decide +kernel))) <|
  zA_c (zOk_fl zn_goto (zs_goto (off := 4) (by decide +kernel) (by decide))) <|
  zA_c (zOk_fl zn_lload (zs_lload_n (q := 2) rfl (by decide +kernel))) <|
  zA_c (zOk_fl zn_lload (zs_lload (by decide +kernel))) <|
  zA_c (zOk_fl zn_quol (zs_ldiv (by decide +kernel))) <|
  zA_c (zs_lret (by decide +kernel) rfl) <|
  zA_n
def zc_283 : Nat → zmI := zgetC [zcl_283_0, zcl_283_1]
theorem zmf_283 (l : Launch) : zMf l zc_283 283 := ⟨by decide +kernel, false, (fun h => by cases h), fun pc => zgetC_ok (zA2_c (zmc_283_0 l) (zA2_c (zmc_283_1 l) (zA2_n))) pc⟩
def zcl_284_0 : List (Nat × zmI) := [(0, zm_iload 1 1), (1, zm_call 4 244 1 true 99), (4, zm_ifeq 7 32), (7, zm_iload 8 2), (8, zm_i2l 9), (9, zm_pushl 10 0), (10, zm_pushl 13 9), (13, zm_call 16 201 3 true 99), (16, zm_ifeq 19 32), (19, zm_iload 20 3), (20, zm_call 23 278 1 true 99), (23, zm_ifeq 26 32), (26, zm_iload 28 4), (28, zm_push 29 (-1)), (29, zm_icge 32 35)]
theorem zmc_284_0 (l : Launch) : zAll l "ChessWireModel" prog_14_method_92_code 5 false (some .int) zcl_284_0 :=
  zA_c (zOk_fl zn_iload (zs_iload_n (q := 1) rfl (by decide +kernel))) <|
  zA_c (zk_S zq_244 zw_1456 (by decide +kernel)) <|
  zA_c (zOk_fl zn_ifeq (zs_ifeq (off := 28) (by decide +kernel) (by decide))) <|
  zA_c (zOk_fl zn_iload (zs_iload_n (q := 2) rfl (by decide +kernel))) <|
  zA_c (zOk_fl zn_i2l (zs_i2l (by decide +kernel))) <|
  zA_c (zOk_fl zn_pushl (zs_lconst (n := 0) (by decide +kernel) rfl)) <|
  zA_c (zOk_fl zn_pushl (zs_ldc2 (by decide +kernel) zw_1550 rfl)) <|
  zA_c (zk_S zq_201 zw_1172 (by decide +kernel)) <|
  zA_c (zOk_fl zn_ifeq (zs_ifeq (off := 16) (by decide +kernel) (by decide))) <|
  zA_c (zOk_fl zn_iload (zs_iload_n (q := 3) rfl (by decide +kernel))) <|
  zA_c (zk_S zq_278 zw_1596 (by decide +kernel)) <|
  zA_c (zOk_fl zn_ifeq (zs_ifeq (off := 9) (by decide +kernel) (by decide))) <|
  zA_c (zOk_fl zn_iload (zs_iload (by decide +kernel))) <|
  zA_c (zOk_fl zn_push (zs_iconst (n := (-1)) (by decide +kernel) rfl)) <|
  zA_c (zOk_fl zn_icge (zs_icge (off := 6) (by decide +kernel) (by decide))) <|
  zA_n
def zcl_284_1 : List (Nat × zmI) := [(32, zm_push 34 (-2)), (34, zm_iret), (35, zm_aload 36 0), (36, zm_iload 37 1), (37, zm_call 40 272 2 true 12), (40, zm_ifeq 43 55), (43, zm_aload 44 0), (44, zm_iload 45 1), (45, zm_iload 46 2), (46, zm_iload 47 3), (47, zm_iload 49 4), (49, zm_call 52 285 5 true 12), (52, zm_goto 57), (55, zm_push 57 (-3)), (57, zm_iret)]
theorem zmc_284_1 (l : Launch) : zAll l "ChessWireModel" prog_14_method_92_code 5 false (some .int) zcl_284_1 :=
  zA_c (zOk_fl zn_push (zs_bipush (n := (-2)) (by decide +kernel) rfl)) <|
  zA_c (zs_iret (by decide +kernel) rfl) <|
  zA_c (zOk_fl zn_aload (zs_aload_n (q := 0) rfl (by decide +kernel))) <|
  zA_c (zOk_fl zn_iload (zs_iload_n (q := 1) rfl (by decide +kernel))) <|
  zA_c (zk_V zq_272 zw_1572 rfl (by decide +kernel)) <|
  zA_c (zOk_fl zn_ifeq (zs_ifeq (off := 15) (by decide +kernel) (by decide))) <|
  zA_c (zOk_fl zn_aload (zs_aload_n (q := 0) rfl (by decide +kernel))) <|
  zA_c (zOk_fl zn_iload (zs_iload_n (q := 1) rfl (by decide +kernel))) <|
  zA_c (zOk_fl zn_iload (zs_iload_n (q := 2) rfl (by decide +kernel))) <|
  zA_c (zOk_fl zn_iload (zs_iload_n (q := 3) rfl (by decide +kernel))) <|
  zA_c (zOk_fl zn_iload (zs_iload (by decide +kernel))) <|
  zA_c (zk_V zq_285 zw_1622 rfl (by decide +kernel)) <|
  zA_c (zOk_fl zn_goto (zs_goto (off := 5) (by decide +kernel) (by decide))) <|
  zA_c (zOk_fl zn_push (zs_bipush (n := (-3)) (by decide +kernel) rfl)) <|
  zA_c (zs_iret (by decide +kernel) rfl) <|
  zA_n
def zc_284 : Nat → zmI := zgetC [zcl_284_0, zcl_284_1]
theorem zmf_284 (l : Launch) : zMf l zc_284 284 := ⟨by decide +kernel, false, (fun h => by cases h), fun pc => zgetC_ok (zA2_c (zmc_284_0 l) (zA2_c (zmc_284_1 l) (zA2_n))) pc⟩
def zcl_285_0 : List (Nat × zmI) := [(0, zm_aload 1 0), (1, zm_iload 2 1), (2, zm_call 5 273 2 false 12), (5, zm_aload 6 0), (6, zm_call 9 281 1 true 12), (9, zm_istore 11 5), (11, zm_push 12 0), (12, zm_istore 14 6), (14, zm_iload 16 6), (16, zm_aload 17 0), (17, zm_getR 20 12 12), (20, zm_push 21 1), (21, zm_ald 22 100), (22, zm_icge 25 83), (25, zm_aload 26 0), (26, zm_aload 27 0), (27, zm_getR 30 12 11), (30, zm_push 33 512)]
theorem zmc_285_0 (l : Launch) : zAll l "ChessWireModel" prog_14_method_91_code 9 false (some .int) zcl_285_0 :=
  zA_c (zOk_fl zn_aload (zs_aload_n (q := 0) rfl (by decide +kernel))) <|
  zA_c (zOk_fl zn_iload (zs_iload_n (q := 1) rfl (by decide +kernel))) <|
  zA_c (zk_V zq_273 zw_1576 rfl (by decide +kernel)) <|
  zA_c (zOk_fl zn_aload (zs_aload_n (q := 0) rfl (by decide +kernel))) <|
  zA_c (zk_V zq_281 zw_1607 rfl (by decide +kernel)) <|
  zA_c (zOk_fl zn_istore (zs_istore (by decide +kernel))) <|
  zA_c (zOk_fl zn_push (zs_iconst (n := 0) (by decide +kernel) rfl)) <|
  zA_c (zOk_fl zn_istore (zs_istore (by decide +kernel))) <|
  zA_c (zOk_fl zn_iload (zs_iload (by decide +kernel))) <|
  zA_c (zOk_fl zn_aload (zs_aload_n (q := 0) rfl (by decide +kernel))) <|
  zA_c (zOk_fl zn_getR (zs_getR (k := 12) rfl (by decide) (by decide +kernel) rfl (by decide +kernel) zw_1191)) <|
  zA_c (zOk_fl zn_push (zs_iconst (n := 1) (by decide +kernel) rfl)) <|
  zA_c (zOk_fl zn_ald (zs_iald (by decide +kernel))) <|
  zA_c (zOk_fl zn_icge (zs_icge (off := 61) (by decide +kernel) (by decide))) <|
  zA_c (zOk_fl zn_aload (zs_aload_n (q := 0) rfl (by decide +kernel))) <|
  zA_c (zOk_fl zn_aload (zs_aload_n (q := 0) rfl (by decide +kernel))) <|
  zA_c (zOk_fl zn_getR (zs_getR (k := 11) rfl (by decide) (by decide +kernel) rfl (by decide +kernel) zw_1190)) <|
  zA_c (zOk_fl zn_push (zs_sipush (n := 512) (by decide +kernel) rfl)) <|
  zA_n
def zcl_285_1 : List (Nat × zmI) := [(33, zm_iload 35 6), (35, zm_bin 36 (fun x y => w32 (x + y))), (36, zm_ald 37 100), (37, zm_call 40 276 2 false 12), (40, zm_aload 41 0), (41, zm_getR 44 12 26), (44, zm_iload 46 6), (46, zm_aload 47 0), (47, zm_getI 50 12 24), (50, zm_push 51 (-1)), (51, zm_icne 54 58), (54, zm_push 55 0), (55, zm_goto 76), (58, zm_aload 59 0), (59, zm_aload 60 0), (60, zm_getR 63 12 11), (63, zm_push 66 512)]
theorem zmc_285_1 (l : Launch) : zAll l "ChessWireModel" prog_14_method_91_code 9 false (some .int) zcl_285_1 :=
  zA_c (zOk_fl zn_iload (zs_iload (by decide +kernel))) <|
  zA_c (zOk_fl zn_bin (zs_iadd (by decide +kernel))) <|
  zA_c (zOk_fl zn_ald (zs_iald (by decide +kernel))) <|
  zA_c (zk_V zq_276 zw_1588 rfl (by decide +kernel)) <|
  zA_c (zOk_fl zn_aload (zs_aload_n (q := 0) rfl (by decide +kernel))) <|
  zA_c (zOk_fl zn_getR (zs_getR (k := 26) rfl (by decide) (by decide +kernel) rfl (by decide +kernel) zw_1205)) <|
  zA_c (zOk_fl zn_iload (zs_iload (by decide +kernel))) <|
  zA_c (zOk_fl zn_aload (zs_aload_n (q := 0) rfl (by decide +kernel))) <|
  zA_c (zOk_fl zn_getI (zs_getI (k := 24) rfl (by decide) (by decide +kernel) rfl (by decide +kernel) zw_1203)) <|
  zA_c (zOk_fl zn_push (zs_iconst (n := (-1)) (by decide +kernel) rfl)) <|
  zA_c (zOk_fl zn_icne (zs_icne (off := 7) (by decide +kernel) (by decide))) <|
  zA_c (zOk_fl zn_push (zs_iconst (n := 0) (by decide +kernel) rfl)) <|
  zA_c (zOk_fl zn_goto (zs_goto (off := 21) (by decide +kernel) (by decide))) <|
  zA_c (zOk_fl zn_aload (zs_aload_n (q := 0) rfl (by decide +kernel))) <|
  zA_c (zOk_fl zn_aload (zs_aload_n (q := 0) rfl (by decide +kernel))) <|
  zA_c (zOk_fl zn_getR (zs_getR (k := 11) rfl (by decide) (by decide +kernel) rfl (by decide +kernel) zw_1190)) <|
  zA_c (zOk_fl zn_push (zs_sipush (n := 512) (by decide +kernel) rfl)) <|
  zA_n
def zcl_285_2 : List (Nat × zmI) := [(66, zm_iload 68 6), (68, zm_bin 69 (fun x y => w32 (x + y))), (69, zm_ald 70 100), (70, zm_iload 71 3), (71, zm_iload 73 5), (73, zm_call 76 282 4 true 12), (76, zm_iast 77), (77, zm_iinc 80 6 1), (80, zm_goto 14), (83, zm_push 84 0), (84, zm_istore 86 6), (86, zm_iload 88 6), (88, zm_iload 89 2), (89, zm_icge 92 209), (92, zm_push 93 (-1)), (93, zm_istore 95 7), (95, zm_push 96 0)]
theorem zmc_285_2 (l : Launch) : zAll l "ChessWireModel" prog_14_method_91_code 9 false (some .int) zcl_285_2 :=
  zA_c (zOk_fl zn_iload (zs_iload (by decide +kernel))) <|
  zA_c (zOk_fl zn_bin (zs_iadd (by decide +kernel))) <|
  zA_c (zOk_fl zn_ald (zs_iald (by decide +kernel))) <|
  zA_c (zOk_fl zn_iload (zs_iload_n (q := 3) rfl (by decide +kernel))) <|
  zA_c (zOk_fl zn_iload (zs_iload (by decide +kernel))) <|
  zA_c (zk_V zq_282 zw_1611 rfl (by decide +kernel)) <|
  zA_c (zOk_sn zn_iast (zs_iast (by decide +kernel))) <|
  zA_c (zOk_fl zn_iinc (zs_iinc rfl (by decide +kernel))) <|
  zA_c (zOk_fl zn_goto (zs_goto (off := (-66)) (by decide +kernel) (by decide))) <|
  zA_c (zOk_fl zn_push (zs_iconst (n := 0) (by decide +kernel) rfl)) <|
  zA_c (zOk_fl zn_istore (zs_istore (by decide +kernel))) <|
  zA_c (zOk_fl zn_iload (zs_iload (by decide +kernel))) <|
  zA_c (zOk_fl zn_iload (zs_iload_n (q := 2) rfl (by decide +kernel))) <|
  zA_c (zOk_fl zn_icge (zs_icge (off := 120) (by decide +kernel) (by decide))) <|
  zA_c (zOk_fl zn_push (zs_iconst (n := (-1)) (by decide +kernel) rfl)) <|
  zA_c (zOk_fl zn_istore (zs_istore (by decide +kernel))) <|
  zA_c (zOk_fl zn_push (zs_iconst (n := 0) (by decide +kernel) rfl)) <|
  zA_n
def zcl_285_3 : List (Nat × zmI) := [(96, zm_istore 98 8), (98, zm_iload 100 8), (100, zm_aload 101 0), (101, zm_getR 104 12 12), (104, zm_push 105 1), (105, zm_ald 106 100), (106, zm_icge 109 157), (109, zm_aload 110 0), (110, zm_getR 113 12 26), (113, zm_iload 115 8), (115, zm_ald 116 100), (116, zm_ifle 119 147), (119, zm_iload 121 7), (121, zm_push 122 (-1)), (122, zm_iceq 125 142), (125, zm_aload 126 0), (126, zm_getR 129 12 26)]
theorem zmc_285_3 (l : Launch) : zAll l "ChessWireModel" prog_14_method_91_code 9 false (some .int) zcl_285_3 :=
  zA_c (zOk_fl zn_istore (zs_istore (by decide +kernel))) <|
  zA_c (zOk_fl zn_iload (zs_iload (by decide +kernel))) <|
  zA_c (zOk_fl zn_aload (zs_aload_n (q := 0) rfl (by decide +kernel))) <|
  zA_c (zOk_fl zn_getR (zs_getR (k := 12) rfl (by decide) (by decide +kernel) rfl (by decide +kernel) zw_1191)) <|
  zA_c (zOk_fl zn_push (zs_iconst (n := 1) (by decide +kernel) rfl)) <|
  zA_c (zOk_fl zn_ald (zs_iald (by decide +kernel))) <|
  zA_c (zOk_fl zn_icge (zs_icge (off := 51) (by decide +kernel) (by decide))) <|
  zA_c (zOk_fl zn_aload (zs_aload_n (q := 0) rfl (by decide +kernel))) <|
  zA_c (zOk_fl zn_getR (zs_getR (k := 26) rfl (by decide) (by decide +kernel) rfl (by decide +kernel) zw_1205)) <|
  zA_c (zOk_fl zn_iload (zs_iload (by decide +kernel))) <|
  zA_c (zOk_fl zn_ald (zs_iald (by decide +kernel))) <|
  zA_c (zOk_fl zn_ifle (zs_ifle (off := 31) (by decide +kernel) (by decide))) <|
  zA_c (zOk_fl zn_iload (zs_iload (by decide +kernel))) <|
  zA_c (zOk_fl zn_push (zs_iconst (n := (-1)) (by decide +kernel) rfl)) <|
  zA_c (zOk_fl zn_iceq (zs_iceq (off := 20) (by decide +kernel) (by decide))) <|
  zA_c (zOk_fl zn_aload (zs_aload_n (q := 0) rfl (by decide +kernel))) <|
  zA_c (zOk_fl zn_getR (zs_getR (k := 26) rfl (by decide) (by decide +kernel) rfl (by decide +kernel) zw_1205)) <|
  zA_n
def zcl_285_4 : List (Nat × zmI) := [(129, zm_iload 131 8), (131, zm_ald 132 100), (132, zm_aload 133 0), (133, zm_getR 136 12 26), (136, zm_iload 138 7), (138, zm_ald 139 100), (139, zm_icle 142 147), (142, zm_iload 144 8), (144, zm_goto 149), (147, zm_iload 149 7), (149, zm_istore 151 7), (151, zm_iinc 154 8 1), (154, zm_goto 98), (157, zm_iload 159 7), (159, zm_push 160 (-1))]
theorem zmc_285_4 (l : Launch) : zAll l "ChessWireModel" prog_14_method_91_code 9 false (some .int) zcl_285_4 :=
  zA_c (zOk_fl zn_iload (zs_iload (by decide +kernel))) <|
  zA_c (zOk_fl zn_ald (zs_iald (by decide +kernel))) <|
  zA_c (zOk_fl zn_aload (zs_aload_n (q := 0) rfl (by decide +kernel))) <|
  zA_c (zOk_fl zn_getR (zs_getR (k := 26) rfl (by decide) (by decide +kernel) rfl (by decide +kernel) zw_1205)) <|
  zA_c (zOk_fl zn_iload (zs_iload (by decide +kernel))) <|
  zA_c (zOk_fl zn_ald (zs_iald (by decide +kernel))) <|
  zA_c (zOk_fl zn_icle (zs_icle (off := 8) (by decide +kernel) (by decide))) <|
  zA_c (zOk_fl zn_iload (zs_iload (by decide +kernel))) <|
  zA_c (zOk_fl zn_goto (zs_goto (off := 5) (by decide +kernel) (by decide))) <|
  zA_c (zOk_fl zn_iload (zs_iload (by decide +kernel))) <|
  zA_c (zOk_fl zn_istore (zs_istore (by decide +kernel))) <|
  zA_c (zOk_fl zn_iinc (zs_iinc rfl (by decide +kernel))) <|
  zA_c (zOk_fl zn_goto (zs_goto (off := (-56)) (by decide +kernel) (by decide))) <|
  zA_c (zOk_fl zn_iload (zs_iload (by decide +kernel))) <|
  zA_c (zOk_fl zn_push (zs_iconst (n := (-1)) (by decide +kernel) rfl)) <|
  zA_n
def zcl_285_5 : List (Nat × zmI) := [(160, zm_icne 163 176), (163, zm_iload 165 4), (165, zm_push 166 (-1)), (166, zm_icne 169 174), (169, zm_iload 171 6), (171, zm_goto 175), (174, zm_push 175 (-1)), (175, zm_iret), (176, zm_iload 178 6), (178, zm_iload 180 4), (180, zm_icne 183 195), (183, zm_aload 184 0), (184, zm_getR 187 12 11), (187, zm_push 190 512), (190, zm_iload 192 7)]
theorem zmc_285_5 (l : Launch) : zAll l "ChessWireModel" prog_14_method_91_code 9 false (some .int) zcl_285_5 :=
  zA_c (zOk_fl zn_icne (zs_icne (off := 16) (by decide +kernel) (by decide))) <|
  zA_c (zOk_fl zn_iload (zs_iload (by decide +kernel))) <|
  zA_c (zOk_fl zn_push (zs_iconst (n := (-1)) (by decide +kernel) rfl)) <|
  zA_c (zOk_fl zn_icne (zs_icne (off := 8) (by decide +kernel) (by decide))) <|
  zA_c (zOk_fl zn_iload (zs_iload (by decide +kernel))) <|
  zA_c (zOk_fl zn_goto (zs_goto (off := 4) (by decide +kernel) (by decide))) <|
  zA_c (zOk_fl zn_push (zs_iconst (n := (-1)) (by decide +kernel) rfl)) <|
  zA_c (zs_iret (by decide +kernel) rfl) <|
  zA_c (zOk_fl zn_iload (zs_iload (by decide +kernel))) <|
  zA_c (zOk_fl zn_iload (zs_iload (by decide +kernel))) <|
  zA_c (zOk_fl zn_icne (zs_icne (off := 15) (by decide +kernel) (by decide))) <|
  zA_c (zOk_fl zn_aload (zs_aload_n (q := 0) rfl (by decide +kernel))) <|
  zA_c (zOk_fl zn_getR (zs_getR (k := 11) rfl (by decide) (by decide +kernel) rfl (by decide +kernel) zw_1190)) <|
  zA_c (zOk_fl zn_push (zs_sipush (n := 512) (by decide +kernel) rfl)) <|
  zA_c (zOk_fl zn_iload (zs_iload (by decide +kernel))) <|
  zA_n
def zcl_285_6 : List (Nat × zmI) := [(192, zm_bin 193 (fun x y => w32 (x + y))), (193, zm_ald 194 100), (194, zm_iret), (195, zm_aload 196 0), (196, zm_getR 199 12 26), (199, zm_iload 201 7), (201, zm_push 202 0), (202, zm_iast 203), (203, zm_iinc 206 6 1), (206, zm_goto 86), (209, zm_iload 211 4), (211, zm_push 212 (-1)), (212, zm_icne 215 219), (215, zm_iload 216 2), (216, zm_goto 220), (219, zm_push 220 (-1)), (220, zm_iret)]
theorem zmc_285_6 (l : Launch) : zAll l "ChessWireModel" prog_14_method_91_code 9 false (some .int) zcl_285_6 :=
  zA_c (zOk_fl zn_bin (zs_iadd (by decide +kernel))) <|
  zA_c (zOk_fl zn_ald (zs_iald (by decide +kernel))) <|
  zA_c (zs_iret (by decide +kernel) rfl) <|
  zA_c (zOk_fl zn_aload (zs_aload_n (q := 0) rfl (by decide +kernel))) <|
  zA_c (zOk_fl zn_getR (zs_getR (k := 26) rfl (by decide) (by decide +kernel) rfl (by decide +kernel) zw_1205)) <|
  zA_c (zOk_fl zn_iload (zs_iload (by decide +kernel))) <|
  zA_c (zOk_fl zn_push (zs_iconst (n := 0) (by decide +kernel) rfl)) <|
  zA_c (zOk_sn zn_iast (zs_iast (by decide +kernel))) <|
  zA_c (zOk_fl zn_iinc (zs_iinc rfl (by decide +kernel))) <|
  zA_c (zOk_fl zn_goto (zs_goto (off := (-120)) (by decide +kernel) (by decide))) <|
  zA_c (zOk_fl zn_iload (zs_iload (by decide +kernel))) <|
  zA_c (zOk_fl zn_push (zs_iconst (n := (-1)) (by decide +kernel) rfl)) <|
  zA_c (zOk_fl zn_icne (zs_icne (off := 7) (by decide +kernel) (by decide))) <|
  zA_c (zOk_fl zn_iload (zs_iload_n (q := 2) rfl (by decide +kernel))) <|
  zA_c (zOk_fl zn_goto (zs_goto (off := 4) (by decide +kernel) (by decide))) <|
  zA_c (zOk_fl zn_push (zs_iconst (n := (-1)) (by decide +kernel) rfl)) <|
  zA_c (zs_iret (by decide +kernel) rfl) <|
  zA_n
def zc_285 : Nat → zmI := zgetC [zcl_285_0, zcl_285_1, zcl_285_2, zcl_285_3, zcl_285_4, zcl_285_5, zcl_285_6]
theorem zmf_285 (l : Launch) : zMf l zc_285 285 := ⟨by decide +kernel, false, (fun h => by cases h), fun pc => zgetC_ok (zA2_c (zmc_285_0 l) (zA2_c (zmc_285_1 l) (zA2_c (zmc_285_2 l) (zA2_c (zmc_285_3 l) (zA2_c (zmc_285_4 l) (zA2_c (zmc_285_5 l) (zA2_c (zmc_285_6 l) (zA2_n)))))))) pc⟩
def zcl_286_0 : List (Nat × zmI) := [(0, zm_iload 1 1), (1, zm_i2l 2), (2, zm_pushl 3 0), (3, zm_pushl 6 2), (6, zm_call 9 201 3 true 99), (9, zm_ifeq 12 20), (12, zm_aload 13 0), (13, zm_iload 14 1), (14, zm_call 17 287 2 true 12), (17, zm_goto 22), (20, zm_push 22 (-2)), (22, zm_iret)]
theorem zmc_286_0 (l : Launch) : zAll l "ChessWireModel" prog_14_method_98_code 2 false (some .int) zcl_286_0 :=
  zA_c (zOk_fl zn_iload (zs_iload_n (q := 1) rfl (by decide +kernel))) <|
  zA_c (zOk_fl zn_i2l (zs_i2l (by decide +kernel))) <|
  zA_c (zOk_fl zn_pushl (zs_lconst (n := 0) (by decide +kernel) rfl)) <|
  zA_c (zOk_fl zn_pushl (zs_ldc2 (by decide +kernel) zw_1303 rfl)) <|
  zA_c (zk_S zq_201 zw_1172 (by decide +kernel)) <|
  zA_c (zOk_fl zn_ifeq (zs_ifeq (off := 11) (by decide +kernel) (by decide))) <|
  zA_c (zOk_fl zn_aload (zs_aload_n (q := 0) rfl (by decide +kernel))) <|
  zA_c (zOk_fl zn_iload (zs_iload_n (q := 1) rfl (by decide +kernel))) <|
  zA_c (zk_V zq_287 zw_1630 rfl (by decide +kernel)) <|
  zA_c (zOk_fl zn_goto (zs_goto (off := 5) (by decide +kernel) (by decide))) <|
  zA_c (zOk_fl zn_push (zs_bipush (n := (-2)) (by decide +kernel) rfl)) <|
  zA_c (zs_iret (by decide +kernel) rfl) <|
  zA_n
def zc_286 : Nat → zmI := zgetC [zcl_286_0]
theorem zmf_286 (l : Launch) : zMf l zc_286 286 := ⟨by decide +kernel, false, (fun h => by cases h), fun pc => zgetC_ok (zA2_c (zmc_286_0 l) (zA2_n)) pc⟩
def zcl_287_0 : List (Nat × zmI) := [(0, zm_aload 1 0), (1, zm_push 2 0), (2, zm_call 5 288 2 false 12), (5, zm_iload 6 1), (6, zm_ifne 9 16), (9, zm_aload 10 0), (10, zm_getI 13 12 30), (13, zm_goto 32), (16, zm_iload 17 1), (17, zm_push 18 1), (18, zm_icne 21 28), (21, zm_aload 22 0), (22, zm_getI 25 12 31), (25, zm_goto 32), (28, zm_aload 29 0), (29, zm_getI 32 12 32)]
theorem zmc_287_0 (l : Launch) : zAll l "ChessWireModel" prog_14_method_97_code 2 false (some .int) zcl_287_0 :=
  zA_c (zOk_fl zn_aload (zs_aload_n (q := 0) rfl (by decide +kernel))) <|
  zA_c (zOk_fl zn_push (zs_iconst (n := 0) (by decide +kernel) rfl)) <|
  zA_c (zk_V zq_288 zw_1634 rfl (by decide +kernel)) <|
  zA_c (zOk_fl zn_iload (zs_iload_n (q := 1) rfl (by decide +kernel))) <|
  zA_c (zOk_fl zn_ifne (zs_ifne (off := 10) (by decide +kernel) (by decide))) <|
  zA_c (zOk_fl zn_aload (zs_aload_n (q := 0) rfl (by decide +kernel))) <|
  zA_c (zOk_fl zn_getI (zs_getI (k := 30) rfl (by decide) (by decide +kernel) rfl (by decide +kernel) zw_1209)) <|
  zA_c (zOk_fl zn_goto (zs_goto (off := 19) (by decide +kernel) (by decide))) <|
  zA_c (zOk_fl zn_iload (zs_iload_n (q := 1) rfl (by decide +kernel))) <|
  zA_c (zOk_fl zn_push (zs_iconst (n := 1) (by decide +kernel) rfl)) <|
  zA_c (zOk_fl zn_icne (zs_icne (off := 10) (by decide +kernel) (by decide))) <|
  zA_c (zOk_fl zn_aload (zs_aload_n (q := 0) rfl (by decide +kernel))) <|
  zA_c (zOk_fl zn_getI (zs_getI (k := 31) rfl (by decide) (by decide +kernel) rfl (by decide +kernel) zw_1210)) <|
  zA_c (zOk_fl zn_goto (zs_goto (off := 7) (by decide +kernel) (by decide))) <|
  zA_c (zOk_fl zn_aload (zs_aload_n (q := 0) rfl (by decide +kernel))) <|
  zA_c (zOk_fl zn_getI (zs_getI (k := 32) rfl (by decide) (by decide +kernel) rfl (by decide +kernel) zw_1211)) <|
  zA_n
def zcl_287_1 : List (Nat × zmI) := [(32, zm_iret)]
theorem zmc_287_1 (l : Launch) : zAll l "ChessWireModel" prog_14_method_97_code 2 false (some .int) zcl_287_1 :=
  zA_c (zs_iret (by decide +kernel) rfl) <|
  zA_n
def zc_287 : Nat → zmI := zgetC [zcl_287_0, zcl_287_1]
theorem zmf_287 (l : Launch) : zMf l zc_287 287 := ⟨by decide +kernel, false, (fun h => by cases h), fun pc => zgetC_ok (zA2_c (zmc_287_0 l) (zA2_c (zmc_287_1 l) (zA2_n))) pc⟩
def zcl_288_0 : List (Nat × zmI) := [(0, zm_aload 1 0), (1, zm_call 4 223 1 true 12), (4, zm_pop 5), (5, zm_aload 6 0), (6, zm_push 7 0), (7, zm_call 10 275 2 false 12), (10, zm_aload 11 0), (11, zm_push 12 (-1)), (12, zm_putI 15 12 30), (15, zm_aload 16 0), (16, zm_push 17 0), (17, zm_putI 20 12 31), (20, zm_aload 21 0), (21, zm_push 22 0), (22, zm_putI 25 12 32), (25, zm_aload 26 0), (26, zm_push 27 (-1)), (27, zm_putI 30 12 33), (30, zm_push 31 0), (31, zm_istore 32 2)]
theorem zmc_288_0 (l : Launch) : zAll l "ChessWireModel" prog_14_method_96_code 6 false (none) zcl_288_0 :=
  zA_c (zOk_fl zn_aload (zs_aload_n (q := 0) rfl (by decide +kernel))) <|
  zA_c (zk_V zq_223 zw_1377 rfl (by decide +kernel)) <|
  zA_c (zOk_fl zn_pop (zs_pop (by decide +kernel))) <|
  zA_c (zOk_fl zn_aload (zs_aload_n (q := 0) rfl (by decide +kernel))) <|
  zA_c (zOk_fl zn_push (zs_iconst (n := 0) (by decide +kernel) rfl)) <|
  zA_c (zk_V zq_275 zw_1584 rfl (by decide +kernel)) <|
  zA_c (zOk_fl zn_aload (zs_aload_n (q := 0) rfl (by decide +kernel))) <|
  zA_c (zOk_fl zn_push (zs_iconst (n := (-1)) (by decide +kernel) rfl)) <|
  zA_c (zOk_sn zn_putI (zs_putI (k := 30) rfl (by decide) (by decide +kernel) rfl rfl (by decide +kernel) zw_1209)) <|
  zA_c (zOk_fl zn_aload (zs_aload_n (q := 0) rfl (by decide +kernel))) <|
  zA_c (zOk_fl zn_push (zs_iconst (n := 0) (by decide +kernel) rfl)) <|
  zA_c (zOk_sn zn_putI (zs_putI (k := 31) rfl (by decide) (by decide +kernel) rfl rfl (by decide +kernel) zw_1210)) <|
  zA_c (zOk_fl zn_aload (zs_aload_n (q := 0) rfl (by decide +kernel))) <|
  zA_c (zOk_fl zn_push (zs_iconst (n := 0) (by decide +kernel) rfl)) <|
  zA_c (zOk_sn zn_putI (zs_putI (k := 32) rfl (by decide) (by decide +kernel) rfl rfl (by decide +kernel) zw_1211)) <|
  zA_c (zOk_fl zn_aload (zs_aload_n (q := 0) rfl (by decide +kernel))) <|
  zA_c (zOk_fl zn_push (zs_iconst (n := (-1)) (by decide +kernel) rfl)) <|
  zA_c (zOk_sn zn_putI (zs_putI (k := 33) rfl (by decide) (by decide +kernel) rfl rfl (by decide +kernel) zw_1212)) <|
  zA_c (zOk_fl zn_push (zs_iconst (n := 0) (by decide +kernel) rfl)) <|
  zA_c (zOk_fl zn_istore (zs_istore_n (q := 2) rfl (by decide +kernel))) <|
  zA_n
def zcl_288_1 : List (Nat × zmI) := [(32, zm_iload 33 2), (33, zm_aload 34 0), (34, zm_getI 37 12 27), (37, zm_icge 40 208), (40, zm_aload 41 0), (41, zm_getI 44 12 30), (44, zm_push 45 (-1)), (45, zm_icne 48 208), (48, zm_aload 49 0), (49, zm_push 50 1), (50, zm_call 53 232 2 false 12), (53, zm_aload 54 0), (54, zm_iload 55 2), (55, zm_call 58 289 2 true 12), (58, zm_istore 59 3), (59, zm_aload 60 0), (60, zm_push 61 1), (61, zm_call 64 257 2 true 12)]
theorem zmc_288_1 (l : Launch) : zAll l "ChessWireModel" prog_14_method_96_code 6 false (none) zcl_288_1 :=
  zA_c (zOk_fl zn_iload (zs_iload_n (q := 2) rfl (by decide +kernel))) <|
  zA_c (zOk_fl zn_aload (zs_aload_n (q := 0) rfl (by decide +kernel))) <|
  zA_c (zOk_fl zn_getI (zs_getI (k := 27) rfl (by decide) (by decide +kernel) rfl (by decide +kernel) zw_1206)) <|
  zA_c (zOk_fl zn_icge (zs_icge (off := 171) (by decide +kernel) (by decide))) <|
  zA_c (zOk_fl zn_aload (zs_aload_n (q := 0) rfl (by decide +kernel))) <|
  zA_c (zOk_fl zn_getI (zs_getI (k := 30) rfl (by decide) (by decide +kernel) rfl (by decide +kernel) zw_1209)) <|
  zA_c (zOk_fl zn_push (zs_iconst (n := (-1)) (by decide +kernel) rfl)) <|
  zA_c (zOk_fl zn_icne (zs_icne (off := 163) (by decide +kernel) (by decide))) <|
  zA_c (zOk_fl zn_aload (zs_aload_n (q := 0) rfl (by decide +kernel))) <|
  zA_c (zOk_fl zn_push (zs_iconst (n := 1) (by decide +kernel) rfl)) <|
  zA_c (zk_V zq_232 zw_1411 rfl (by decide +kernel)) <|
  zA_c (zOk_fl zn_aload (zs_aload_n (q := 0) rfl (by decide +kernel))) <|
  zA_c (zOk_fl zn_iload (zs_iload_n (q := 2) rfl (by decide +kernel))) <|
  zA_c (zk_V zq_289 zw_1638 rfl (by decide +kernel)) <|
  zA_c (zOk_fl zn_istore (zs_istore_n (q := 3) rfl (by decide +kernel))) <|
  zA_c (zOk_fl zn_aload (zs_aload_n (q := 0) rfl (by decide +kernel))) <|
  zA_c (zOk_fl zn_push (zs_iconst (n := 1) (by decide +kernel) rfl)) <|
  zA_c (zk_V zq_257 zw_1509 rfl (by decide +kernel)) <|
  zA_n
def zcl_288_2 : List (Nat × zmI) := [(64, zm_push 65 1), (65, zm_iceq 68 76), (68, zm_aload 69 0), (69, zm_iload 70 2), (70, zm_putI 73 12 30), (73, zm_goto 202), (76, zm_push 77 (-1)), (77, zm_istore 79 4), (79, zm_push 80 0), (80, zm_istore 82 5), (82, zm_iload 84 5), (84, zm_aload 85 0), (85, zm_getR 88 12 12), (88, zm_push 89 1), (89, zm_ald 90 100), (90, zm_icge 93 136), (93, zm_aload 94 0), (94, zm_push 95 1), (95, zm_aload 96 0)]
theorem zmc_288_2 (l : Launch) : zAll l "ChessWireModel" prog_14_method_96_code 6 false (none) zcl_288_2 :=
  zA_c (zOk_fl zn_push (zs_iconst (n := 1) (by decide +kernel) rfl)) <|
  zA_c (zOk_fl zn_iceq (zs_iceq (off := 11) (by decide +kernel) (by decide))) <|
  zA_c (zOk_fl zn_aload (zs_aload_n (q := 0) rfl (by decide +kernel))) <|
  zA_c (zOk_fl zn_iload (zs_iload_n (q := 2) rfl (by decide +kernel))) <|
  zA_c (zOk_sn zn_putI (zs_putI (k := 30) rfl (by decide) (by decide +kernel) rfl rfl (by decide +kernel) zw_1209)) <|
  zA_c (zOk_fl zn_goto (zs_goto (off := 129) (by decide +kernel) (by decide))) <|
  zA_c (zOk_fl zn_push (zs_iconst (n := (-1)) (by decide +kernel) rfl)) <|
  zA_c (zOk_fl zn_istore (zs_istore (by decide +kernel))) <|
  zA_c (zOk_fl zn_push (zs_iconst (n := 0) (by decide +kernel) rfl)) <|
  zA_c (zOk_fl zn_istore (zs_istore (by decide +kernel))) <|
  zA_c (zOk_fl zn_iload (zs_iload (by decide +kernel))) <|
  zA_c (zOk_fl zn_aload (zs_aload_n (q := 0) rfl (by decide +kernel))) <|
  zA_c (zOk_fl zn_getR (zs_getR (k := 12) rfl (by decide) (by decide +kernel) rfl (by decide +kernel) zw_1191)) <|
  zA_c (zOk_fl zn_push (zs_iconst (n := 1) (by decide +kernel) rfl)) <|
  zA_c (zOk_fl zn_ald (zs_iald (by decide +kernel))) <|
  zA_c (zOk_fl zn_icge (zs_icge (off := 46) (by decide +kernel) (by decide))) <|
  zA_c (zOk_fl zn_aload (zs_aload_n (q := 0) rfl (by decide +kernel))) <|
  zA_c (zOk_fl zn_push (zs_iconst (n := 1) (by decide +kernel) rfl)) <|
  zA_c (zOk_fl zn_aload (zs_aload_n (q := 0) rfl (by decide +kernel))) <|
  zA_n
def zcl_288_3 : List (Nat × zmI) := [(96, zm_getR 99 12 11), (99, zm_push 102 512), (102, zm_iload 104 5), (104, zm_bin 105 (fun x y => w32 (x + y))), (105, zm_ald 106 100), (106, zm_call 109 258 3 true 12), (109, zm_ifeq 112 126), (112, zm_aload 113 0), (113, zm_getR 116 12 11), (116, zm_push 119 512), (119, zm_iload 121 5), (121, zm_bin 122 (fun x y => w32 (x + y))), (122, zm_ald 123 100), (123, zm_goto 128), (126, zm_iload 128 4)]
theorem zmc_288_3 (l : Launch) : zAll l "ChessWireModel" prog_14_method_96_code 6 false (none) zcl_288_3 :=
  zA_c (zOk_fl zn_getR (zs_getR (k := 11) rfl (by decide) (by decide +kernel) rfl (by decide +kernel) zw_1190)) <|
  zA_c (zOk_fl zn_push (zs_sipush (n := 512) (by decide +kernel) rfl)) <|
  zA_c (zOk_fl zn_iload (zs_iload (by decide +kernel))) <|
  zA_c (zOk_fl zn_bin (zs_iadd (by decide +kernel))) <|
  zA_c (zOk_fl zn_ald (zs_iald (by decide +kernel))) <|
  zA_c (zk_V zq_258 zw_1513 rfl (by decide +kernel)) <|
  zA_c (zOk_fl zn_ifeq (zs_ifeq (off := 17) (by decide +kernel) (by decide))) <|
  zA_c (zOk_fl zn_aload (zs_aload_n (q := 0) rfl (by decide +kernel))) <|
  zA_c (zOk_fl zn_getR (zs_getR (k := 11) rfl (by decide) (by decide +kernel) rfl (by decide +kernel) zw_1190)) <|
  zA_c (zOk_fl zn_push (zs_sipush (n := 512) (by decide +kernel) rfl)) <|
  zA_c (zOk_fl zn_iload (zs_iload (by decide +kernel))) <|
  zA_c (zOk_fl zn_bin (zs_iadd (by decide +kernel))) <|
  zA_c (zOk_fl zn_ald (zs_iald (by decide +kernel))) <|
  zA_c (zOk_fl zn_goto (zs_goto (off := 5) (by decide +kernel) (by decide))) <|
  zA_c (zOk_fl zn_iload (zs_iload (by decide +kernel))) <|
  zA_n
def zcl_288_4 : List (Nat × zmI) := [(128, zm_istore 130 4), (130, zm_iinc 133 5 1), (133, zm_goto 82), (136, zm_aload 137 0), (137, zm_getR 140 12 29), (140, zm_aload 141 0), (141, zm_getI 144 12 31), (144, zm_iload 146 4), (146, zm_iast 147), (147, zm_aload 148 0), (148, zm_push 149 1), (149, zm_iload 151 4), (151, zm_call 154 248 3 false 12), (154, zm_aload 155 0), (155, zm_dup 156), (156, zm_getI 159 12 31), (159, zm_push 160 1)]
theorem zmc_288_4 (l : Launch) : zAll l "ChessWireModel" prog_14_method_96_code 6 false (none) zcl_288_4 :=
  zA_c (zOk_fl zn_istore (zs_istore (by decide +kernel))) <|
  zA_c (zOk_fl zn_iinc (zs_iinc rfl (by decide +kernel))) <|
  zA_c (zOk_fl zn_goto (zs_goto (off := (-51)) (by decide +kernel) (by decide))) <|
  zA_c (zOk_fl zn_aload (zs_aload_n (q := 0) rfl (by decide +kernel))) <|
  zA_c (zOk_fl zn_getR (zs_getR (k := 29) rfl (by decide) (by decide +kernel) rfl (by decide +kernel) zw_1208)) <|
  zA_c (zOk_fl zn_aload (zs_aload_n (q := 0) rfl (by decide +kernel))) <|
  zA_c (zOk_fl zn_getI (zs_getI (k := 31) rfl (by decide) (by decide +kernel) rfl (by decide +kernel) zw_1210)) <|
  zA_c (zOk_fl zn_iload (zs_iload (by decide +kernel))) <|
  zA_c (zOk_sn zn_iast (zs_iast (by decide +kernel))) <|
  zA_c (zOk_fl zn_aload (zs_aload_n (q := 0) rfl (by decide +kernel))) <|
  zA_c (zOk_fl zn_push (zs_iconst (n := 1) (by decide +kernel) rfl)) <|
  zA_c (zOk_fl zn_iload (zs_iload (by decide +kernel))) <|
  zA_c (zk_V zq_248 zw_1472 rfl (by decide +kernel)) <|
  zA_c (zOk_fl zn_aload (zs_aload_n (q := 0) rfl (by decide +kernel))) <|
  zA_c (zOk_fl zn_dup (zs_dup (by decide +kernel))) <|
  zA_c (zOk_fl zn_getI (zs_getI (k := 31) rfl (by decide) (by decide +kernel) rfl (by decide +kernel) zw_1210)) <|
  zA_c (zOk_fl zn_push (zs_iconst (n := 1) (by decide +kernel) rfl)) <|
  zA_n
def zcl_288_5 : List (Nat × zmI) := [(160, zm_bin 161 (fun x y => w32 (x + y))), (161, zm_putI 164 12 31), (164, zm_aload 165 0), (165, zm_dup 166), (166, zm_getI 169 12 32), (169, zm_iload 170 3), (170, zm_bin 171 (fun x y => w32 (x + y))), (171, zm_putI 174 12 32), (174, zm_aload 175 0), (175, zm_aload 176 0), (176, zm_getI 179 12 33), (179, zm_push 180 (-1)), (180, zm_icne 183 195), (183, zm_aload 184 0), (184, zm_getI 187 12 32), (187, zm_iload 188 1), (188, zm_icle 191 195), (191, zm_iload 192 2)]
theorem zmc_288_5 (l : Launch) : zAll l "ChessWireModel" prog_14_method_96_code 6 false (none) zcl_288_5 :=
  zA_c (zOk_fl zn_bin (zs_iadd (by decide +kernel))) <|
  zA_c (zOk_sn zn_putI (zs_putI (k := 31) rfl (by decide) (by decide +kernel) rfl rfl (by decide +kernel) zw_1210)) <|
  zA_c (zOk_fl zn_aload (zs_aload_n (q := 0) rfl (by decide +kernel))) <|
  zA_c (zOk_fl zn_dup (zs_dup (by decide +kernel))) <|
  zA_c (zOk_fl zn_getI (zs_getI (k := 32) rfl (by decide) (by decide +kernel) rfl (by decide +kernel) zw_1211)) <|
  zA_c (zOk_fl zn_iload (zs_iload_n (q := 3) rfl (by decide +kernel))) <|
  zA_c (zOk_fl zn_bin (zs_iadd (by decide +kernel))) <|
  zA_c (zOk_sn zn_putI (zs_putI (k := 32) rfl (by decide) (by decide +kernel) rfl rfl (by decide +kernel) zw_1211)) <|
  zA_c (zOk_fl zn_aload (zs_aload_n (q := 0) rfl (by decide +kernel))) <|
  zA_c (zOk_fl zn_aload (zs_aload_n (q := 0) rfl (by decide +kernel))) <|
  zA_c (zOk_fl zn_getI (zs_getI (k := 33) rfl (by decide) (by decide +kernel) rfl (by decide +kernel) zw_1212)) <|
  zA_c (zOk_fl zn_push (zs_iconst (n := (-1)) (by decide +kernel) rfl)) <|
  zA_c (zOk_fl zn_icne (zs_icne (off := 15) (by decide +kernel) (by decide))) <|
  zA_c (zOk_fl zn_aload (zs_aload_n (q := 0) rfl (by decide +kernel))) <|
  zA_c (zOk_fl zn_getI (zs_getI (k := 32) rfl (by decide) (by decide +kernel) rfl (by decide +kernel) zw_1211)) <|
  zA_c (zOk_fl zn_iload (zs_iload_n (q := 1) rfl (by decide +kernel))) <|
  zA_c (zOk_fl zn_icle (zs_icle (off := 7) (by decide +kernel) (by decide))) <|
  zA_c (zOk_fl zn_iload (zs_iload_n (q := 2) rfl (by decide +kernel))) <|
  zA_n
def zcl_288_6 : List (Nat × zmI) := [(192, zm_goto 199), (195, zm_aload 196 0), (196, zm_getI 199 12 33), (199, zm_putI 202 12 33), (202, zm_iinc 205 2 1), (205, zm_goto 32), (208, zm_vret)]
theorem zmc_288_6 (l : Launch) : zAll l "ChessWireModel" prog_14_method_96_code 6 false (none) zcl_288_6 :=
  zA_c (zOk_fl zn_goto (zs_goto (off := 7) (by decide +kernel) (by decide))) <|
  zA_c (zOk_fl zn_aload (zs_aload_n (q := 0) rfl (by decide +kernel))) <|
  zA_c (zOk_fl zn_getI (zs_getI (k := 33) rfl (by decide) (by decide +kernel) rfl (by decide +kernel) zw_1212)) <|
  zA_c (zOk_sn zn_putI (zs_putI (k := 33) rfl (by decide) (by decide +kernel) rfl rfl (by decide +kernel) zw_1212)) <|
  zA_c (zOk_fl zn_iinc (zs_iinc rfl (by decide +kernel))) <|
  zA_c (zOk_fl zn_goto (zs_goto (off := (-173)) (by decide +kernel) (by decide))) <|
  zA_c (zs_vret (by decide +kernel) rfl) <|
  zA_n
def zc_288 : Nat → zmI := zgetC [zcl_288_0, zcl_288_1, zcl_288_2, zcl_288_3, zcl_288_4, zcl_288_5, zcl_288_6]
theorem zmf_288 (l : Launch) : zMf l zc_288 288 := ⟨by decide +kernel, false, (fun h => by cases h), fun pc => zgetC_ok (zA2_c (zmc_288_0 l) (zA2_c (zmc_288_1 l) (zA2_c (zmc_288_2 l) (zA2_c (zmc_288_3 l) (zA2_c (zmc_288_4 l) (zA2_c (zmc_288_5 l) (zA2_c (zmc_288_6 l) (zA2_n)))))))) pc⟩
