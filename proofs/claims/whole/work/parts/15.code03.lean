/-! code, and why it is sound -/
def zcl_193_0 : List (Nat × zmI) := [(0, zm_aload 1 0), (1, zm_obj 4), (4, zm_aload 5 0), (5, zm_push 6 4), (6, zm_newa 8 100), (8, zm_putR 11 12 0), (11, zm_aload 12 0), (12, zm_push 13 4), (13, zm_newa 15 100), (15, zm_putR 18 12 1), (18, zm_aload 19 0), (19, zm_push 22 240), (22, zm_newa 24 100), (24, zm_putR 27 12 2), (27, zm_aload 28 0), (28, zm_push 30 60), (30, zm_newa 32 100)]
theorem zmc_193_0 (l : Launch) : zAll l "ChessWireModel" prog_14_method_1_code 2 true (none) zcl_193_0 :=
  zA_c (zOk_fl zn_aload (zs_aload_n (q := 0) rfl (by decide +kernel))) <|
  zA_c (zOk_fl zn_obj (zs_obj (by decide +kernel) zw_1143 zw_30 zw_objc)) <|
  zA_c (zOk_fl zn_aload (zs_aload_n (q := 0) rfl (by decide +kernel))) <|
  zA_c (zOk_fl zn_push (zs_iconst (n := 4) (by decide +kernel) rfl)) <|
  zA_c (zOk_sn zn_newa (zs_newi zw_49 (by decide +kernel))) <|
  zA_c (zOk_sn zn_putR (zs_putR (k := 0) rfl (by decide) (by decide +kernel) rfl rfl rfl rfl (by decide +kernel) zw_1179)) <|
  zA_c (zOk_fl zn_aload (zs_aload_n (q := 0) rfl (by decide +kernel))) <|
  zA_c (zOk_fl zn_push (zs_iconst (n := 4) (by decide +kernel) rfl)) <|
  zA_c (zOk_sn zn_newa (zs_newi zw_49 (by decide +kernel))) <|
  zA_c (zOk_sn zn_putR (zs_putR (k := 1) rfl (by decide) (by decide +kernel) rfl rfl rfl rfl (by decide +kernel) zw_1180)) <|
  zA_c (zOk_fl zn_aload (zs_aload_n (q := 0) rfl (by decide +kernel))) <|
  zA_c (zOk_fl zn_push (zs_sipush (n := 240) (by decide +kernel) rfl)) <|
  zA_c (zOk_sn zn_newa (zs_newi zw_49 (by decide +kernel))) <|
  zA_c (zOk_sn zn_putR (zs_putR (k := 2) rfl (by decide) (by decide +kernel) rfl rfl rfl rfl (by decide +kernel) zw_1181)) <|
  zA_c (zOk_fl zn_aload (zs_aload_n (q := 0) rfl (by decide +kernel))) <|
  zA_c (zOk_fl zn_push (zs_bipush (n := 60) (by decide +kernel) rfl)) <|
  zA_c (zOk_sn zn_newa (zs_newi zw_49 (by decide +kernel))) <|
  zA_n
def zcl_193_1 : List (Nat × zmI) := [(32, zm_putR 35 12 3), (35, zm_aload 36 0), (36, zm_push 39 150), (39, zm_newa 41 100), (41, zm_putR 44 12 5), (44, zm_aload 45 0), (45, zm_push 46 3), (46, zm_newa 48 100), (48, zm_putR 51 12 6), (51, zm_aload 52 0), (52, zm_push 55 256), (55, zm_newa 57 100), (57, zm_putR 60 12 8), (60, zm_aload 61 0), (61, zm_push 62 4), (62, zm_newa 64 100)]
theorem zmc_193_1 (l : Launch) : zAll l "ChessWireModel" prog_14_method_1_code 2 true (none) zcl_193_1 :=
  zA_c (zOk_sn zn_putR (zs_putR (k := 3) rfl (by decide) (by decide +kernel) rfl rfl rfl rfl (by decide +kernel) zw_1182)) <|
  zA_c (zOk_fl zn_aload (zs_aload_n (q := 0) rfl (by decide +kernel))) <|
  zA_c (zOk_fl zn_push (zs_sipush (n := 150) (by decide +kernel) rfl)) <|
  zA_c (zOk_sn zn_newa (zs_newi zw_49 (by decide +kernel))) <|
  zA_c (zOk_sn zn_putR (zs_putR (k := 5) rfl (by decide) (by decide +kernel) rfl rfl rfl rfl (by decide +kernel) zw_1184)) <|
  zA_c (zOk_fl zn_aload (zs_aload_n (q := 0) rfl (by decide +kernel))) <|
  zA_c (zOk_fl zn_push (zs_iconst (n := 3) (by decide +kernel) rfl)) <|
  zA_c (zOk_sn zn_newa (zs_newi zw_49 (by decide +kernel))) <|
  zA_c (zOk_sn zn_putR (zs_putR (k := 6) rfl (by decide) (by decide +kernel) rfl rfl rfl rfl (by decide +kernel) zw_1185)) <|
  zA_c (zOk_fl zn_aload (zs_aload_n (q := 0) rfl (by decide +kernel))) <|
  zA_c (zOk_fl zn_push (zs_sipush (n := 256) (by decide +kernel) rfl)) <|
  zA_c (zOk_sn zn_newa (zs_newi zw_49 (by decide +kernel))) <|
  zA_c (zOk_sn zn_putR (zs_putR (k := 8) rfl (by decide) (by decide +kernel) rfl rfl rfl rfl (by decide +kernel) zw_1187)) <|
  zA_c (zOk_fl zn_aload (zs_aload_n (q := 0) rfl (by decide +kernel))) <|
  zA_c (zOk_fl zn_push (zs_iconst (n := 4) (by decide +kernel) rfl)) <|
  zA_c (zOk_sn zn_newa (zs_newi zw_49 (by decide +kernel))) <|
  zA_n
def zcl_193_2 : List (Nat × zmI) := [(64, zm_putR 67 12 9), (67, zm_aload 68 0), (68, zm_push 71 2048), (71, zm_newa 73 100), (73, zm_putR 76 12 11), (76, zm_aload 77 0), (77, zm_push 78 4), (78, zm_newa 80 100), (80, zm_putR 83 12 12), (83, zm_aload 84 0), (84, zm_push 85 5), (85, zm_newa 87 100), (87, zm_putR 90 12 18), (90, zm_aload 91 0), (91, zm_push 92 5), (92, zm_newa 94 100), (94, zm_putR 97 12 20)]
theorem zmc_193_2 (l : Launch) : zAll l "ChessWireModel" prog_14_method_1_code 2 true (none) zcl_193_2 :=
  zA_c (zOk_sn zn_putR (zs_putR (k := 9) rfl (by decide) (by decide +kernel) rfl rfl rfl rfl (by decide +kernel) zw_1188)) <|
  zA_c (zOk_fl zn_aload (zs_aload_n (q := 0) rfl (by decide +kernel))) <|
  zA_c (zOk_fl zn_push (zs_sipush (n := 2048) (by decide +kernel) rfl)) <|
  zA_c (zOk_sn zn_newa (zs_newi zw_49 (by decide +kernel))) <|
  zA_c (zOk_sn zn_putR (zs_putR (k := 11) rfl (by decide) (by decide +kernel) rfl rfl rfl rfl (by decide +kernel) zw_1190)) <|
  zA_c (zOk_fl zn_aload (zs_aload_n (q := 0) rfl (by decide +kernel))) <|
  zA_c (zOk_fl zn_push (zs_iconst (n := 4) (by decide +kernel) rfl)) <|
  zA_c (zOk_sn zn_newa (zs_newi zw_49 (by decide +kernel))) <|
  zA_c (zOk_sn zn_putR (zs_putR (k := 12) rfl (by decide) (by decide +kernel) rfl rfl rfl rfl (by decide +kernel) zw_1191)) <|
  zA_c (zOk_fl zn_aload (zs_aload_n (q := 0) rfl (by decide +kernel))) <|
  zA_c (zOk_fl zn_push (zs_iconst (n := 5) (by decide +kernel) rfl)) <|
  zA_c (zOk_sn zn_newa (zs_newi zw_49 (by decide +kernel))) <|
  zA_c (zOk_sn zn_putR (zs_putR (k := 18) rfl (by decide) (by decide +kernel) rfl rfl rfl rfl (by decide +kernel) zw_1197)) <|
  zA_c (zOk_fl zn_aload (zs_aload_n (q := 0) rfl (by decide +kernel))) <|
  zA_c (zOk_fl zn_push (zs_iconst (n := 5) (by decide +kernel) rfl)) <|
  zA_c (zOk_sn zn_newa (zs_newi zw_49 (by decide +kernel))) <|
  zA_c (zOk_sn zn_putR (zs_putR (k := 20) rfl (by decide) (by decide +kernel) rfl rfl rfl rfl (by decide +kernel) zw_1199)) <|
  zA_n
def zcl_193_3 : List (Nat × zmI) := [(97, zm_aload 98 0), (98, zm_push 100 6), (100, zm_newa 102 100), (102, zm_putR 105 12 22), (105, zm_aload 106 0), (106, zm_push 109 600), (109, zm_newa 111 100), (111, zm_putR 114 12 23), (114, zm_aload 115 0), (115, zm_push 118 512), (118, zm_newa 120 100), (120, zm_putR 123 12 26), (123, zm_aload 124 0), (124, zm_push 126 13), (126, zm_newa 128 100)]
theorem zmc_193_3 (l : Launch) : zAll l "ChessWireModel" prog_14_method_1_code 2 true (none) zcl_193_3 :=
  zA_c (zOk_fl zn_aload (zs_aload_n (q := 0) rfl (by decide +kernel))) <|
  zA_c (zOk_fl zn_push (zs_bipush (n := 6) (by decide +kernel) rfl)) <|
  zA_c (zOk_sn zn_newa (zs_newi zw_49 (by decide +kernel))) <|
  zA_c (zOk_sn zn_putR (zs_putR (k := 22) rfl (by decide) (by decide +kernel) rfl rfl rfl rfl (by decide +kernel) zw_1201)) <|
  zA_c (zOk_fl zn_aload (zs_aload_n (q := 0) rfl (by decide +kernel))) <|
  zA_c (zOk_fl zn_push (zs_sipush (n := 600) (by decide +kernel) rfl)) <|
  zA_c (zOk_sn zn_newa (zs_newi zw_49 (by decide +kernel))) <|
  zA_c (zOk_sn zn_putR (zs_putR (k := 23) rfl (by decide) (by decide +kernel) rfl rfl rfl rfl (by decide +kernel) zw_1202)) <|
  zA_c (zOk_fl zn_aload (zs_aload_n (q := 0) rfl (by decide +kernel))) <|
  zA_c (zOk_fl zn_push (zs_sipush (n := 512) (by decide +kernel) rfl)) <|
  zA_c (zOk_sn zn_newa (zs_newi zw_49 (by decide +kernel))) <|
  zA_c (zOk_sn zn_putR (zs_putR (k := 26) rfl (by decide) (by decide +kernel) rfl rfl rfl rfl (by decide +kernel) zw_1205)) <|
  zA_c (zOk_fl zn_aload (zs_aload_n (q := 0) rfl (by decide +kernel))) <|
  zA_c (zOk_fl zn_push (zs_bipush (n := 13) (by decide +kernel) rfl)) <|
  zA_c (zOk_sn zn_newa (zs_newi zw_49 (by decide +kernel))) <|
  zA_n
def zcl_193_4 : List (Nat × zmI) := [(128, zm_putR 131 12 28), (131, zm_aload 132 0), (132, zm_push 134 12), (134, zm_newa 136 100), (136, zm_putR 139 12 29), (139, zm_aload 140 0), (140, zm_push 141 3), (141, zm_newa 143 100), (143, zm_putR 146 12 35), (146, zm_aload 147 0), (147, zm_push 150 12288), (150, zm_newa 152 102), (152, zm_putR 155 12 36), (155, zm_push 156 0), (156, zm_istore 157 1), (157, zm_iload 158 1), (158, zm_push 159 4), (159, zm_icge 162 175)]
theorem zmc_193_4 (l : Launch) : zAll l "ChessWireModel" prog_14_method_1_code 2 true (none) zcl_193_4 :=
  zA_c (zOk_sn zn_putR (zs_putR (k := 28) rfl (by decide) (by decide +kernel) rfl rfl rfl rfl (by decide +kernel) zw_1207)) <|
  zA_c (zOk_fl zn_aload (zs_aload_n (q := 0) rfl (by decide +kernel))) <|
  zA_c (zOk_fl zn_push (zs_bipush (n := 12) (by decide +kernel) rfl)) <|
  zA_c (zOk_sn zn_newa (zs_newi zw_49 (by decide +kernel))) <|
  zA_c (zOk_sn zn_putR (zs_putR (k := 29) rfl (by decide) (by decide +kernel) rfl rfl rfl rfl (by decide +kernel) zw_1208)) <|
  zA_c (zOk_fl zn_aload (zs_aload_n (q := 0) rfl (by decide +kernel))) <|
  zA_c (zOk_fl zn_push (zs_iconst (n := 3) (by decide +kernel) rfl)) <|
  zA_c (zOk_sn zn_newa (zs_newi zw_49 (by decide +kernel))) <|
  zA_c (zOk_sn zn_putR (zs_putR (k := 35) rfl (by decide) (by decide +kernel) rfl rfl rfl rfl (by decide +kernel) zw_1214)) <|
  zA_c (zOk_fl zn_aload (zs_aload_n (q := 0) rfl (by decide +kernel))) <|
  zA_c (zOk_fl zn_push (zs_sipush (n := 12288) (by decide +kernel) rfl)) <|
  zA_c (zOk_sn zn_newa (zs_newz zw_1294 (by decide +kernel))) <|
  zA_c (zOk_sn zn_putR (zs_putR (k := 36) rfl (by decide) (by decide +kernel) rfl rfl rfl rfl (by decide +kernel) zw_1215)) <|
  zA_c (zOk_fl zn_push (zs_iconst (n := 0) (by decide +kernel) rfl)) <|
  zA_c (zOk_fl zn_istore (zs_istore_n (q := 1) rfl (by decide +kernel))) <|
  zA_c (zOk_fl zn_iload (zs_iload_n (q := 1) rfl (by decide +kernel))) <|
  zA_c (zOk_fl zn_push (zs_iconst (n := 4) (by decide +kernel) rfl)) <|
  zA_c (zOk_fl zn_icge (zs_icge (off := 16) (by decide +kernel) (by decide))) <|
  zA_n
def zcl_193_5 : List (Nat × zmI) := [(162, zm_aload 163 0), (163, zm_getR 166 12 0), (166, zm_iload 167 1), (167, zm_push 168 (-1)), (168, zm_iast 169), (169, zm_iinc 172 1 1), (172, zm_goto 157), (175, zm_push 176 0), (176, zm_istore 177 1), (177, zm_iload 178 1), (178, zm_push 180 6), (180, zm_icge 183 196), (183, zm_aload 184 0), (184, zm_getR 187 12 22), (187, zm_iload 188 1), (188, zm_push 189 1), (189, zm_iast 190), (190, zm_iinc 193 1 1)]
theorem zmc_193_5 (l : Launch) : zAll l "ChessWireModel" prog_14_method_1_code 2 true (none) zcl_193_5 :=
  zA_c (zOk_fl zn_aload (zs_aload_n (q := 0) rfl (by decide +kernel))) <|
  zA_c (zOk_fl zn_getR (zs_getR (k := 0) rfl (by decide) (by decide +kernel) rfl (by decide +kernel) zw_1179)) <|
  zA_c (zOk_fl zn_iload (zs_iload_n (q := 1) rfl (by decide +kernel))) <|
  zA_c (zOk_fl zn_push (zs_iconst (n := (-1)) (by decide +kernel) rfl)) <|
  zA_c (zOk_sn zn_iast (zs_iast (by decide +kernel))) <|
  zA_c (zOk_fl zn_iinc (zs_iinc rfl (by decide +kernel))) <|
  zA_c (zOk_fl zn_goto (zs_goto (off := (-15)) (by decide +kernel) (by decide))) <|
  zA_c (zOk_fl zn_push (zs_iconst (n := 0) (by decide +kernel) rfl)) <|
  zA_c (zOk_fl zn_istore (zs_istore_n (q := 1) rfl (by decide +kernel))) <|
  zA_c (zOk_fl zn_iload (zs_iload_n (q := 1) rfl (by decide +kernel))) <|
  zA_c (zOk_fl zn_push (zs_bipush (n := 6) (by decide +kernel) rfl)) <|
  zA_c (zOk_fl zn_icge (zs_icge (off := 16) (by decide +kernel) (by decide))) <|
  zA_c (zOk_fl zn_aload (zs_aload_n (q := 0) rfl (by decide +kernel))) <|
  zA_c (zOk_fl zn_getR (zs_getR (k := 22) rfl (by decide) (by decide +kernel) rfl (by decide +kernel) zw_1201)) <|
  zA_c (zOk_fl zn_iload (zs_iload_n (q := 1) rfl (by decide +kernel))) <|
  zA_c (zOk_fl zn_push (zs_iconst (n := 1) (by decide +kernel) rfl)) <|
  zA_c (zOk_sn zn_iast (zs_iast (by decide +kernel))) <|
  zA_c (zOk_fl zn_iinc (zs_iinc rfl (by decide +kernel))) <|
  zA_n
def zcl_193_6 : List (Nat × zmI) := [(193, zm_goto 177), (196, zm_aload 197 0), (197, zm_call 200 194 1 true 12), (200, zm_pop 201), (201, zm_vret)]
theorem zmc_193_6 (l : Launch) : zAll l "ChessWireModel" prog_14_method_1_code 2 true (none) zcl_193_6 :=
  zA_c (zOk_fl zn_goto (zs_goto (off := (-16)) (by decide +kernel) (by decide))) <|
  zA_c (zOk_fl zn_aload (zs_aload_n (q := 0) rfl (by decide +kernel))) <|
  zA_c (zk_V zq_194 zw_1144 rfl (by decide +kernel)) <|
  zA_c (zOk_fl zn_pop (zs_pop (by decide +kernel))) <|
  zA_c (zs_vret (by decide +kernel) rfl) <|
  zA_n
def zc_193 : Nat → zmI := zgetC [zcl_193_0, zcl_193_1, zcl_193_2, zcl_193_3, zcl_193_4, zcl_193_5, zcl_193_6]
theorem zmf_193 (l : Launch) : zMf l zc_193 193 := ⟨by decide +kernel, true, fun _ => rfl, fun pc => zgetC_ok (zA2_c (zmc_193_0 l) (zA2_c (zmc_193_1 l) (zA2_c (zmc_193_2 l) (zA2_c (zmc_193_3 l) (zA2_c (zmc_193_4 l) (zA2_c (zmc_193_5 l) (zA2_c (zmc_193_6 l) (zA2_n)))))))) pc⟩
def zcl_194_0 : List (Nat × zmI) := [(0, zm_aload 1 0), (1, zm_push 2 0), (2, zm_putI 5 12 10), (5, zm_aload 6 0), (6, zm_call 9 195 1 true 12), (9, zm_istore 10 1), (10, zm_iload 11 1), (11, zm_push 12 (-1)), (12, zm_iceq 15 63), (15, zm_push 16 0), (16, zm_istore 17 2), (17, zm_iload 18 2), (18, zm_push 20 64), (20, zm_icge 23 56), (23, zm_aload 24 0), (24, zm_getR 27 12 8), (27, zm_iload 28 2), (28, zm_iload 29 2), (29, zm_ifne 32 37)]
theorem zmc_194_0 (l : Launch) : zAll l "ChessWireModel" prog_14_method_28_code 3 false (some .int) zcl_194_0 :=
  zA_c (zOk_fl zn_aload (zs_aload_n (q := 0) rfl (by decide +kernel))) <|
  zA_c (zOk_fl zn_push (zs_iconst (n := 0) (by decide +kernel) rfl)) <|
  zA_c (zOk_sn zn_putI (zs_putI (k := 10) rfl (by decide) (by decide +kernel) rfl rfl (by decide +kernel) zw_1189)) <|
  zA_c (zOk_fl zn_aload (zs_aload_n (q := 0) rfl (by decide +kernel))) <|
  zA_c (zk_V zq_195 zw_1148 rfl (by decide +kernel)) <|
  zA_c (zOk_fl zn_istore (zs_istore_n (q := 1) rfl (by decide +kernel))) <|
  zA_c (zOk_fl zn_iload (zs_iload_n (q := 1) rfl (by decide +kernel))) <|
  zA_c (zOk_fl zn_push (zs_iconst (n := (-1)) (by decide +kernel) rfl)) <|
  zA_c (zOk_fl zn_iceq (zs_iceq (off := 51) (by decide +kernel) (by decide))) <|
  zA_c (zOk_fl zn_push (zs_iconst (n := 0) (by decide +kernel) rfl)) <|
  zA_c (zOk_fl zn_istore (zs_istore_n (q := 2) rfl (by decide +kernel))) <|
  zA_c (zOk_fl zn_iload (zs_iload_n (q := 2) rfl (by decide +kernel))) <|
  zA_c (zOk_fl zn_push (zs_bipush (n := 64) (by decide +kernel) rfl)) <|
  zA_c (zOk_fl zn_icge (zs_icge (off := 36) (by decide +kernel) (by decide))) <|
  zA_c (zOk_fl zn_aload (zs_aload_n (q := 0) rfl (by decide +kernel))) <|
  zA_c (zOk_fl zn_getR (zs_getR (k := 8) rfl (by decide) (by decide +kernel) rfl (by decide +kernel) zw_1187)) <|
  zA_c (zOk_fl zn_iload (zs_iload_n (q := 2) rfl (by decide +kernel))) <|
  zA_c (zOk_fl zn_iload (zs_iload_n (q := 2) rfl (by decide +kernel))) <|
  zA_c (zOk_fl zn_ifne (zs_ifne (off := 8) (by decide +kernel) (by decide))) <|
  zA_n
def zcl_194_1 : List (Nat × zmI) := [(32, zm_push 34 6), (34, zm_goto 49), (37, zm_iload 38 2), (38, zm_push 40 63), (40, zm_icne 43 48), (43, zm_push 45 14), (45, zm_goto 49), (48, zm_push 49 0), (49, zm_iast 50), (50, zm_iinc 53 2 1), (53, zm_goto 17), (56, zm_aload 57 0), (57, zm_getR 60 12 9), (60, zm_push 61 0), (61, zm_push 62 0), (62, zm_iast 63), (63, zm_iload 64 1)]
theorem zmc_194_1 (l : Launch) : zAll l "ChessWireModel" prog_14_method_28_code 3 false (some .int) zcl_194_1 :=
  zA_c (zOk_fl zn_push (zs_bipush (n := 6) (by decide +kernel) rfl)) <|
  zA_c (zOk_fl zn_goto (zs_goto (off := 15) (by decide +kernel) (by decide))) <|
  zA_c (zOk_fl zn_iload (zs_iload_n (q := 2) rfl (by decide +kernel))) <|
  zA_c (zOk_fl zn_push (zs_bipush (n := 63) (by decide +kernel) rfl)) <|
  zA_c (zOk_fl zn_icne (zs_icne (off := 8) (by decide +kernel) (by decide))) <|
  zA_c (zOk_fl zn_push (zs_bipush (n := 14) (by decide +kernel) rfl)) <|
  zA_c (zOk_fl zn_goto (zs_goto (off := 4) (by decide +kernel) (by decide))) <|
  zA_c (zOk_fl zn_push (zs_iconst (n := 0) (by decide +kernel) rfl)) <|
  zA_c (zOk_sn zn_iast (zs_iast (by decide +kernel))) <|
  zA_c (zOk_fl zn_iinc (zs_iinc rfl (by decide +kernel))) <|
  zA_c (zOk_fl zn_goto (zs_goto (off := (-36)) (by decide +kernel) (by decide))) <|
  zA_c (zOk_fl zn_aload (zs_aload_n (q := 0) rfl (by decide +kernel))) <|
  zA_c (zOk_fl zn_getR (zs_getR (k := 9) rfl (by decide) (by decide +kernel) rfl (by decide +kernel) zw_1188)) <|
  zA_c (zOk_fl zn_push (zs_iconst (n := 0) (by decide +kernel) rfl)) <|
  zA_c (zOk_fl zn_push (zs_iconst (n := 0) (by decide +kernel) rfl)) <|
  zA_c (zOk_sn zn_iast (zs_iast (by decide +kernel))) <|
  zA_c (zOk_fl zn_iload (zs_iload_n (q := 1) rfl (by decide +kernel))) <|
  zA_n
def zcl_194_2 : List (Nat × zmI) := [(64, zm_iret)]
theorem zmc_194_2 (l : Launch) : zAll l "ChessWireModel" prog_14_method_28_code 3 false (some .int) zcl_194_2 :=
  zA_c (zs_iret (by decide +kernel) rfl) <|
  zA_n
def zc_194 : Nat → zmI := zgetC [zcl_194_0, zcl_194_1, zcl_194_2]
theorem zmf_194 (l : Launch) : zMf l zc_194 194 := ⟨by decide +kernel, false, (fun h => by cases h), fun pc => zgetC_ok (zA2_c (zmc_194_0 l) (zA2_c (zmc_194_1 l) (zA2_c (zmc_194_2 l) (zA2_n)))) pc⟩
def zcl_195_0 : List (Nat × zmI) := [(0, zm_aload 1 0), (1, zm_push 2 0), (2, zm_putI 5 12 7), (5, zm_push 6 0), (6, zm_istore 7 1), (7, zm_iload 8 1), (8, zm_push 10 64), (10, zm_icge 13 26), (13, zm_aload 14 0), (14, zm_getR 17 12 8), (17, zm_iload 18 1), (18, zm_push 19 0), (19, zm_iast 20), (20, zm_iinc 23 1 1), (23, zm_goto 7), (26, zm_push 28 7), (28, zm_istore 29 1), (29, zm_iload 30 1), (30, zm_iflt 33 70)]
theorem zmc_195_0 (l : Launch) : zAll l "ChessWireModel" prog_14_method_27_code 2 false (some .int) zcl_195_0 :=
  zA_c (zOk_fl zn_aload (zs_aload_n (q := 0) rfl (by decide +kernel))) <|
  zA_c (zOk_fl zn_push (zs_iconst (n := 0) (by decide +kernel) rfl)) <|
  zA_c (zOk_sn zn_putI (zs_putI (k := 7) rfl (by decide) (by decide +kernel) rfl rfl (by decide +kernel) zw_1186)) <|
  zA_c (zOk_fl zn_push (zs_iconst (n := 0) (by decide +kernel) rfl)) <|
  zA_c (zOk_fl zn_istore (zs_istore_n (q := 1) rfl (by decide +kernel))) <|
  zA_c (zOk_fl zn_iload (zs_iload_n (q := 1) rfl (by decide +kernel))) <|
  zA_c (zOk_fl zn_push (zs_bipush (n := 64) (by decide +kernel) rfl)) <|
  zA_c (zOk_fl zn_icge (zs_icge (off := 16) (by decide +kernel) (by decide))) <|
  zA_c (zOk_fl zn_aload (zs_aload_n (q := 0) rfl (by decide +kernel))) <|
  zA_c (zOk_fl zn_getR (zs_getR (k := 8) rfl (by decide) (by decide +kernel) rfl (by decide +kernel) zw_1187)) <|
  zA_c (zOk_fl zn_iload (zs_iload_n (q := 1) rfl (by decide +kernel))) <|
  zA_c (zOk_fl zn_push (zs_iconst (n := 0) (by decide +kernel) rfl)) <|
  zA_c (zOk_sn zn_iast (zs_iast (by decide +kernel))) <|
  zA_c (zOk_fl zn_iinc (zs_iinc rfl (by decide +kernel))) <|
  zA_c (zOk_fl zn_goto (zs_goto (off := (-16)) (by decide +kernel) (by decide))) <|
  zA_c (zOk_fl zn_push (zs_bipush (n := 7) (by decide +kernel) rfl)) <|
  zA_c (zOk_fl zn_istore (zs_istore_n (q := 1) rfl (by decide +kernel))) <|
  zA_c (zOk_fl zn_iload (zs_iload_n (q := 1) rfl (by decide +kernel))) <|
  zA_c (zOk_fl zn_iflt (zs_iflt (off := 40) (by decide +kernel) (by decide))) <|
  zA_n
def zcl_195_1 : List (Nat × zmI) := [(33, zm_aload 34 0), (34, zm_iload 35 1), (35, zm_call 38 196 2 true 12), (38, zm_ifeq 41 59), (41, zm_aload 42 0), (42, zm_iload 43 1), (43, zm_ifle 46 51), (46, zm_push 48 47), (48, zm_goto 53), (51, zm_push 53 32), (53, zm_call 56 202 2 true 12), (56, zm_ifne 59 64), (59, zm_aload 60 0), (60, zm_getI 63 12 7), (63, zm_iret)]
theorem zmc_195_1 (l : Launch) : zAll l "ChessWireModel" prog_14_method_27_code 2 false (some .int) zcl_195_1 :=
  zA_c (zOk_fl zn_aload (zs_aload_n (q := 0) rfl (by decide +kernel))) <|
  zA_c (zOk_fl zn_iload (zs_iload_n (q := 1) rfl (by decide +kernel))) <|
  zA_c (zk_V zq_196 zw_1152 rfl (by decide +kernel)) <|
  zA_c (zOk_fl zn_ifeq (zs_ifeq (off := 21) (by decide +kernel) (by decide))) <|
  zA_c (zOk_fl zn_aload (zs_aload_n (q := 0) rfl (by decide +kernel))) <|
  zA_c (zOk_fl zn_iload (zs_iload_n (q := 1) rfl (by decide +kernel))) <|
  zA_c (zOk_fl zn_ifle (zs_ifle (off := 8) (by decide +kernel) (by decide))) <|
  zA_c (zOk_fl zn_push (zs_bipush (n := 47) (by decide +kernel) rfl)) <|
  zA_c (zOk_fl zn_goto (zs_goto (off := 5) (by decide +kernel) (by decide))) <|
  zA_c (zOk_fl zn_push (zs_bipush (n := 32) (by decide +kernel) rfl)) <|
  zA_c (zk_V zq_202 zw_1175 rfl (by decide +kernel)) <|
  zA_c (zOk_fl zn_ifne (zs_ifne (off := 8) (by decide +kernel) (by decide))) <|
  zA_c (zOk_fl zn_aload (zs_aload_n (q := 0) rfl (by decide +kernel))) <|
  zA_c (zOk_fl zn_getI (zs_getI (k := 7) rfl (by decide) (by decide +kernel) rfl (by decide +kernel) zw_1186)) <|
  zA_c (zs_iret (by decide +kernel) rfl) <|
  zA_n
def zcl_195_2 : List (Nat × zmI) := [(64, zm_iinc 67 1 (-1)), (67, zm_goto 29), (70, zm_aload 71 0), (71, zm_push 72 0), (72, zm_aload 73 0), (73, zm_getI 76 12 7), (76, zm_call 79 197 3 true 12), (79, zm_istore 80 1), (80, zm_iload 81 1), (81, zm_push 83 119), (83, zm_iceq 86 97), (86, zm_iload 87 1), (87, zm_push 89 98), (89, zm_iceq 92 97), (92, zm_aload 93 0), (93, zm_getI 96 12 7)]
theorem zmc_195_2 (l : Launch) : zAll l "ChessWireModel" prog_14_method_27_code 2 false (some .int) zcl_195_2 :=
  zA_c (zOk_fl zn_iinc (zs_iinc rfl (by decide +kernel))) <|
  zA_c (zOk_fl zn_goto (zs_goto (off := (-38)) (by decide +kernel) (by decide))) <|
  zA_c (zOk_fl zn_aload (zs_aload_n (q := 0) rfl (by decide +kernel))) <|
  zA_c (zOk_fl zn_push (zs_iconst (n := 0) (by decide +kernel) rfl)) <|
  zA_c (zOk_fl zn_aload (zs_aload_n (q := 0) rfl (by decide +kernel))) <|
  zA_c (zOk_fl zn_getI (zs_getI (k := 7) rfl (by decide) (by decide +kernel) rfl (by decide +kernel) zw_1186)) <|
  zA_c (zk_V zq_197 zw_1156 rfl (by decide +kernel)) <|
  zA_c (zOk_fl zn_istore (zs_istore_n (q := 1) rfl (by decide +kernel))) <|
  zA_c (zOk_fl zn_iload (zs_iload_n (q := 1) rfl (by decide +kernel))) <|
  zA_c (zOk_fl zn_push (zs_bipush (n := 119) (by decide +kernel) rfl)) <|
  zA_c (zOk_fl zn_iceq (zs_iceq (off := 14) (by decide +kernel) (by decide))) <|
  zA_c (zOk_fl zn_iload (zs_iload_n (q := 1) rfl (by decide +kernel))) <|
  zA_c (zOk_fl zn_push (zs_bipush (n := 98) (by decide +kernel) rfl)) <|
  zA_c (zOk_fl zn_iceq (zs_iceq (off := 8) (by decide +kernel) (by decide))) <|
  zA_c (zOk_fl zn_aload (zs_aload_n (q := 0) rfl (by decide +kernel))) <|
  zA_c (zOk_fl zn_getI (zs_getI (k := 7) rfl (by decide) (by decide +kernel) rfl (by decide +kernel) zw_1186)) <|
  zA_n
def zcl_195_3 : List (Nat × zmI) := [(96, zm_iret), (97, zm_aload 98 0), (98, zm_getR 101 12 9), (101, zm_push 102 0), (102, zm_iload 103 1), (103, zm_push 105 119), (105, zm_icne 108 112), (108, zm_push 109 0), (109, zm_goto 114), (112, zm_push 114 8), (114, zm_iast 115), (115, zm_aload 116 0), (116, zm_dup 117), (117, zm_getI 120 12 7), (120, zm_push 121 1), (121, zm_bin 122 (fun x y => w32 (x + y))), (122, zm_putI 125 12 7), (125, zm_aload 126 0), (126, zm_getI 129 12 7)]
theorem zmc_195_3 (l : Launch) : zAll l "ChessWireModel" prog_14_method_27_code 2 false (some .int) zcl_195_3 :=
  zA_c (zs_iret (by decide +kernel) rfl) <|
  zA_c (zOk_fl zn_aload (zs_aload_n (q := 0) rfl (by decide +kernel))) <|
  zA_c (zOk_fl zn_getR (zs_getR (k := 9) rfl (by decide) (by decide +kernel) rfl (by decide +kernel) zw_1188)) <|
  zA_c (zOk_fl zn_push (zs_iconst (n := 0) (by decide +kernel) rfl)) <|
  zA_c (zOk_fl zn_iload (zs_iload_n (q := 1) rfl (by decide +kernel))) <|
  zA_c (zOk_fl zn_push (zs_bipush (n := 119) (by decide +kernel) rfl)) <|
  zA_c (zOk_fl zn_icne (zs_icne (off := 7) (by decide +kernel) (by decide))) <|
  zA_c (zOk_fl zn_push (zs_iconst (n := 0) (by decide +kernel) rfl)) <|
  zA_c (zOk_fl zn_goto (zs_goto (off := 5) (by decide +kernel) (by decide))) <|
  zA_c (zOk_fl zn_push (zs_bipush (n := 8) (by decide +kernel) rfl)) <|
  zA_c (zOk_sn zn_iast (zs_iast (by decide +kernel))) <|
  zA_c (zOk_fl zn_aload (zs_aload_n (q := 0) rfl (by decide +kernel))) <|
  zA_c (zOk_fl zn_dup (zs_dup (by decide +kernel))) <|
  zA_c (zOk_fl zn_getI (zs_getI (k := 7) rfl (by decide) (by decide +kernel) rfl (by decide +kernel) zw_1186)) <|
  zA_c (zOk_fl zn_push (zs_iconst (n := 1) (by decide +kernel) rfl)) <|
  zA_c (zOk_fl zn_bin (zs_iadd (by decide +kernel))) <|
  zA_c (zOk_sn zn_putI (zs_putI (k := 7) rfl (by decide) (by decide +kernel) rfl rfl (by decide +kernel) zw_1186)) <|
  zA_c (zOk_fl zn_aload (zs_aload_n (q := 0) rfl (by decide +kernel))) <|
  zA_c (zOk_fl zn_getI (zs_getI (k := 7) rfl (by decide) (by decide +kernel) rfl (by decide +kernel) zw_1186)) <|
  zA_n
def zcl_195_4 : List (Nat × zmI) := [(129, zm_aload 130 0), (130, zm_getR 133 12 6), (133, zm_push 134 0), (134, zm_ald 135 100), (135, zm_iclt 138 156), (138, zm_aload 139 0), (139, zm_push 141 6), (141, zm_call 144 200 2 true 12), (144, zm_ifeq 147 156), (147, zm_aload 148 0), (148, zm_push 150 14), (150, zm_call 153 200 2 true 12), (153, zm_ifne 156 163), (156, zm_aload 157 0), (157, zm_getI 160 12 7)]
theorem zmc_195_4 (l : Launch) : zAll l "ChessWireModel" prog_14_method_27_code 2 false (some .int) zcl_195_4 :=
  zA_c (zOk_fl zn_aload (zs_aload_n (q := 0) rfl (by decide +kernel))) <|
  zA_c (zOk_fl zn_getR (zs_getR (k := 6) rfl (by decide) (by decide +kernel) rfl (by decide +kernel) zw_1185)) <|
  zA_c (zOk_fl zn_push (zs_iconst (n := 0) (by decide +kernel) rfl)) <|
  zA_c (zOk_fl zn_ald (zs_iald (by decide +kernel))) <|
  zA_c (zOk_fl zn_iclt (zs_iclt (off := 21) (by decide +kernel) (by decide))) <|
  zA_c (zOk_fl zn_aload (zs_aload_n (q := 0) rfl (by decide +kernel))) <|
  zA_c (zOk_fl zn_push (zs_bipush (n := 6) (by decide +kernel) rfl)) <|
  zA_c (zk_V zq_200 zw_1166 rfl (by decide +kernel)) <|
  zA_c (zOk_fl zn_ifeq (zs_ifeq (off := 12) (by decide +kernel) (by decide))) <|
  zA_c (zOk_fl zn_aload (zs_aload_n (q := 0) rfl (by decide +kernel))) <|
  zA_c (zOk_fl zn_push (zs_bipush (n := 14) (by decide +kernel) rfl)) <|
  zA_c (zk_V zq_200 zw_1166 rfl (by decide +kernel)) <|
  zA_c (zOk_fl zn_ifne (zs_ifne (off := 10) (by decide +kernel) (by decide))) <|
  zA_c (zOk_fl zn_aload (zs_aload_n (q := 0) rfl (by decide +kernel))) <|
  zA_c (zOk_fl zn_getI (zs_getI (k := 7) rfl (by decide) (by decide +kernel) rfl (by decide +kernel) zw_1186)) <|
  zA_n
def zcl_195_5 : List (Nat × zmI) := [(160, zm_goto 164), (163, zm_push 164 (-1)), (164, zm_iret)]
theorem zmc_195_5 (l : Launch) : zAll l "ChessWireModel" prog_14_method_27_code 2 false (some .int) zcl_195_5 :=
  zA_c (zOk_fl zn_goto (zs_goto (off := 4) (by decide +kernel) (by decide))) <|
  zA_c (zOk_fl zn_push (zs_iconst (n := (-1)) (by decide +kernel) rfl)) <|
  zA_c (zs_iret (by decide +kernel) rfl) <|
  zA_n
def zc_195 : Nat → zmI := zgetC [zcl_195_0, zcl_195_1, zcl_195_2, zcl_195_3, zcl_195_4, zcl_195_5]
theorem zmf_195 (l : Launch) : zMf l zc_195 195 := ⟨by decide +kernel, false, (fun h => by cases h), fun pc => zgetC_ok (zA2_c (zmc_195_0 l) (zA2_c (zmc_195_1 l) (zA2_c (zmc_195_2 l) (zA2_c (zmc_195_3 l) (zA2_c (zmc_195_4 l) (zA2_c (zmc_195_5 l) (zA2_n))))))) pc⟩
def zcl_196_0 : List (Nat × zmI) := [(0, zm_push 1 0), (1, zm_istore 2 2), (2, zm_iload 3 2), (3, zm_push 5 8), (5, zm_icge 8 149), (8, zm_aload 9 0), (9, zm_push 10 0), (10, zm_aload 11 0), (11, zm_getI 14 12 7), (14, zm_call 17 197 3 true 12), (17, zm_istore 18 3), (18, zm_iload 19 3), (19, zm_call 22 199 1 true 99), (22, zm_istore 24 4), (24, zm_iload 26 4), (26, zm_push 28 6), (28, zm_iceq 31 38), (31, zm_iload 33 4)]
theorem zmc_196_0 (l : Launch) : zAll l "ChessWireModel" prog_14_method_25_code 7 false (some .boolean) zcl_196_0 :=
  zA_c (zOk_fl zn_push (zs_iconst (n := 0) (by decide +kernel) rfl)) <|
  zA_c (zOk_fl zn_istore (zs_istore_n (q := 2) rfl (by decide +kernel))) <|
  zA_c (zOk_fl zn_iload (zs_iload_n (q := 2) rfl (by decide +kernel))) <|
  zA_c (zOk_fl zn_push (zs_bipush (n := 8) (by decide +kernel) rfl)) <|
  zA_c (zOk_fl zn_icge (zs_icge (off := 144) (by decide +kernel) (by decide))) <|
  zA_c (zOk_fl zn_aload (zs_aload_n (q := 0) rfl (by decide +kernel))) <|
  zA_c (zOk_fl zn_push (zs_iconst (n := 0) (by decide +kernel) rfl)) <|
  zA_c (zOk_fl zn_aload (zs_aload_n (q := 0) rfl (by decide +kernel))) <|
  zA_c (zOk_fl zn_getI (zs_getI (k := 7) rfl (by decide) (by decide +kernel) rfl (by decide +kernel) zw_1186)) <|
  zA_c (zk_V zq_197 zw_1156 rfl (by decide +kernel)) <|
  zA_c (zOk_fl zn_istore (zs_istore_n (q := 3) rfl (by decide +kernel))) <|
  zA_c (zOk_fl zn_iload (zs_iload_n (q := 3) rfl (by decide +kernel))) <|
  zA_c (zk_S zq_199 zw_1163 (by decide +kernel)) <|
  zA_c (zOk_fl zn_istore (zs_istore (by decide +kernel))) <|
  zA_c (zOk_fl zn_iload (zs_iload (by decide +kernel))) <|
  zA_c (zOk_fl zn_push (zs_bipush (n := 6) (by decide +kernel) rfl)) <|
  zA_c (zOk_fl zn_iceq (zs_iceq (off := 10) (by decide +kernel) (by decide))) <|
  zA_c (zOk_fl zn_iload (zs_iload (by decide +kernel))) <|
  zA_n
def zcl_196_1 : List (Nat × zmI) := [(33, zm_push 35 14), (35, zm_icne 38 51), (38, zm_aload 39 0), (39, zm_iload 41 4), (41, zm_call 44 200 2 true 12), (44, zm_ifle 47 51), (47, zm_push 48 1), (48, zm_goto 52), (51, zm_push 52 0), (52, zm_istore 54 5), (54, zm_iload 55 3), (55, zm_i2l 56), (56, zm_pushl 59 49), (59, zm_pushl 62 56), (62, zm_call 65 201 3 true 99)]
theorem zmc_196_1 (l : Launch) : zAll l "ChessWireModel" prog_14_method_25_code 7 false (some .boolean) zcl_196_1 :=
  zA_c (zOk_fl zn_push (zs_bipush (n := 14) (by decide +kernel) rfl)) <|
  zA_c (zOk_fl zn_icne (zs_icne (off := 16) (by decide +kernel) (by decide))) <|
  zA_c (zOk_fl zn_aload (zs_aload_n (q := 0) rfl (by decide +kernel))) <|
  zA_c (zOk_fl zn_iload (zs_iload (by decide +kernel))) <|
  zA_c (zk_V zq_200 zw_1166 rfl (by decide +kernel)) <|
  zA_c (zOk_fl zn_ifle (zs_ifle (off := 7) (by decide +kernel) (by decide))) <|
  zA_c (zOk_fl zn_push (zs_iconst (n := 1) (by decide +kernel) rfl)) <|
  zA_c (zOk_fl zn_goto (zs_goto (off := 4) (by decide +kernel) (by decide))) <|
  zA_c (zOk_fl zn_push (zs_iconst (n := 0) (by decide +kernel) rfl)) <|
  zA_c (zOk_fl zn_istore (zs_istore (by decide +kernel))) <|
  zA_c (zOk_fl zn_iload (zs_iload_n (q := 3) rfl (by decide +kernel))) <|
  zA_c (zOk_fl zn_i2l (zs_i2l (by decide +kernel))) <|
  zA_c (zOk_fl zn_pushl (zs_ldc2 (by decide +kernel) zw_1170 rfl)) <|
  zA_c (zOk_fl zn_pushl (zs_ldc2 (by decide +kernel) zw_1171 rfl)) <|
  zA_c (zk_S zq_201 zw_1172 (by decide +kernel)) <|
  zA_n
def zcl_196_2 : List (Nat × zmI) := [(65, zm_ifeq 68 75), (68, zm_iload 69 3), (69, zm_push 71 48), (71, zm_bin 72 (fun x y => w32 (x - y))), (72, zm_goto 76), (75, zm_push 76 0), (76, zm_istore 78 6), (78, zm_iload 80 4), (80, zm_ifne 83 88), (83, zm_iload 85 6), (85, zm_ifeq 88 102), (88, zm_iload 90 5), (90, zm_ifne 93 102), (93, zm_iload 94 2), (94, zm_iload 96 6)]
theorem zmc_196_2 (l : Launch) : zAll l "ChessWireModel" prog_14_method_25_code 7 false (some .boolean) zcl_196_2 :=
  zA_c (zOk_fl zn_ifeq (zs_ifeq (off := 10) (by decide +kernel) (by decide))) <|
  zA_c (zOk_fl zn_iload (zs_iload_n (q := 3) rfl (by decide +kernel))) <|
  zA_c (zOk_fl zn_push (zs_bipush (n := 48) (by decide +kernel) rfl)) <|
  zA_c (zOk_fl zn_bin (zs_isub (by decide +kernel))) <|
  zA_c (zOk_fl zn_goto (zs_goto (off := 4) (by decide +kernel) (by decide))) <|
  zA_c (zOk_fl zn_push (zs_iconst (n := 0) (by decide +kernel) rfl)) <|
  zA_c (zOk_fl zn_istore (zs_istore (by decide +kernel))) <|
  zA_c (zOk_fl zn_iload (zs_iload (by decide +kernel))) <|
  zA_c (zOk_fl zn_ifne (zs_ifne (off := 8) (by decide +kernel) (by decide))) <|
  zA_c (zOk_fl zn_iload (zs_iload (by decide +kernel))) <|
  zA_c (zOk_fl zn_ifeq (zs_ifeq (off := 17) (by decide +kernel) (by decide))) <|
  zA_c (zOk_fl zn_iload (zs_iload (by decide +kernel))) <|
  zA_c (zOk_fl zn_ifne (zs_ifne (off := 12) (by decide +kernel) (by decide))) <|
  zA_c (zOk_fl zn_iload (zs_iload_n (q := 2) rfl (by decide +kernel))) <|
  zA_c (zOk_fl zn_iload (zs_iload (by decide +kernel))) <|
  zA_n
def zcl_196_3 : List (Nat × zmI) := [(96, zm_bin 97 (fun x y => w32 (x + y))), (97, zm_push 99 8), (99, zm_icle 102 104), (102, zm_push 103 0), (103, zm_zret), (104, zm_iload 106 4), (106, zm_ifle 109 122), (109, zm_aload 110 0), (110, zm_getR 113 12 8), (113, zm_push 115 8), (115, zm_iload 116 1), (116, zm_bin 117 (fun x y => w32 (x * y))), (117, zm_iload 118 2), (118, zm_bin 119 (fun x y => w32 (x + y))), (119, zm_iload 121 4), (121, zm_iast 122), (122, zm_iload 123 2), (123, zm_iload 125 4), (125, zm_ifle 128 132)]
theorem zmc_196_3 (l : Launch) : zAll l "ChessWireModel" prog_14_method_25_code 7 false (some .boolean) zcl_196_3 :=
  zA_c (zOk_fl zn_bin (zs_iadd (by decide +kernel))) <|
  zA_c (zOk_fl zn_push (zs_bipush (n := 8) (by decide +kernel) rfl)) <|
  zA_c (zOk_fl zn_icle (zs_icle (off := 5) (by decide +kernel) (by decide))) <|
  zA_c (zOk_fl zn_push (zs_iconst (n := 0) (by decide +kernel) rfl)) <|
  zA_c (zs_zret (by decide +kernel) rfl) <|
  zA_c (zOk_fl zn_iload (zs_iload (by decide +kernel))) <|
  zA_c (zOk_fl zn_ifle (zs_ifle (off := 16) (by decide +kernel) (by decide))) <|
  zA_c (zOk_fl zn_aload (zs_aload_n (q := 0) rfl (by decide +kernel))) <|
  zA_c (zOk_fl zn_getR (zs_getR (k := 8) rfl (by decide) (by decide +kernel) rfl (by decide +kernel) zw_1187)) <|
  zA_c (zOk_fl zn_push (zs_bipush (n := 8) (by decide +kernel) rfl)) <|
  zA_c (zOk_fl zn_iload (zs_iload_n (q := 1) rfl (by decide +kernel))) <|
  zA_c (zOk_fl zn_bin (zs_imul (by decide +kernel))) <|
  zA_c (zOk_fl zn_iload (zs_iload_n (q := 2) rfl (by decide +kernel))) <|
  zA_c (zOk_fl zn_bin (zs_iadd (by decide +kernel))) <|
  zA_c (zOk_fl zn_iload (zs_iload (by decide +kernel))) <|
  zA_c (zOk_sn zn_iast (zs_iast (by decide +kernel))) <|
  zA_c (zOk_fl zn_iload (zs_iload_n (q := 2) rfl (by decide +kernel))) <|
  zA_c (zOk_fl zn_iload (zs_iload (by decide +kernel))) <|
  zA_c (zOk_fl zn_ifle (zs_ifle (off := 7) (by decide +kernel) (by decide))) <|
  zA_n
def zcl_196_4 : List (Nat × zmI) := [(128, zm_push 129 1), (129, zm_goto 134), (132, zm_iload 134 6), (134, zm_bin 135 (fun x y => w32 (x + y))), (135, zm_istore 136 2), (136, zm_aload 137 0), (137, zm_dup 138), (138, zm_getI 141 12 7), (141, zm_push 142 1), (142, zm_bin 143 (fun x y => w32 (x + y))), (143, zm_putI 146 12 7), (146, zm_goto 2), (149, zm_push 150 1), (150, zm_zret)]
theorem zmc_196_4 (l : Launch) : zAll l "ChessWireModel" prog_14_method_25_code 7 false (some .boolean) zcl_196_4 :=
  zA_c (zOk_fl zn_push (zs_iconst (n := 1) (by decide +kernel) rfl)) <|
  zA_c (zOk_fl zn_goto (zs_goto (off := 5) (by decide +kernel) (by decide))) <|
  zA_c (zOk_fl zn_iload (zs_iload (by decide +kernel))) <|
  zA_c (zOk_fl zn_bin (zs_iadd (by decide +kernel))) <|
  zA_c (zOk_fl zn_istore (zs_istore_n (q := 2) rfl (by decide +kernel))) <|
  zA_c (zOk_fl zn_aload (zs_aload_n (q := 0) rfl (by decide +kernel))) <|
  zA_c (zOk_fl zn_dup (zs_dup (by decide +kernel))) <|
  zA_c (zOk_fl zn_getI (zs_getI (k := 7) rfl (by decide) (by decide +kernel) rfl (by decide +kernel) zw_1186)) <|
  zA_c (zOk_fl zn_push (zs_iconst (n := 1) (by decide +kernel) rfl)) <|
  zA_c (zOk_fl zn_bin (zs_iadd (by decide +kernel))) <|
  zA_c (zOk_sn zn_putI (zs_putI (k := 7) rfl (by decide) (by decide +kernel) rfl rfl (by decide +kernel) zw_1186)) <|
  zA_c (zOk_fl zn_goto (zs_goto (off := (-144)) (by decide +kernel) (by decide))) <|
  zA_c (zOk_fl zn_push (zs_iconst (n := 1) (by decide +kernel) rfl)) <|
  zA_c (zs_zret (by decide +kernel) rfl) <|
  zA_n
def zc_196 : Nat → zmI := zgetC [zcl_196_0, zcl_196_1, zcl_196_2, zcl_196_3, zcl_196_4]
theorem zmf_196 (l : Launch) : zMf l zc_196 196 := ⟨by decide +kernel, false, (fun h => by cases h), fun pc => zgetC_ok (zA2_c (zmc_196_0 l) (zA2_c (zmc_196_1 l) (zA2_c (zmc_196_2 l) (zA2_c (zmc_196_3 l) (zA2_c (zmc_196_4 l) (zA2_n)))))) pc⟩
def zcl_197_0 : List (Nat × zmI) := [(0, zm_iload 1 2), (1, zm_aload 2 0), (2, zm_getR 5 12 6), (5, zm_iload 6 1), (6, zm_ald 7 100), (7, zm_icge 10 24), (10, zm_aload 11 0), (11, zm_getR 14 12 5), (14, zm_iload 15 1), (15, zm_call 18 198 1 true 99), (18, zm_iload 19 2), (19, zm_bin 20 (fun x y => w32 (x + y))), (20, zm_ald 21 100), (21, zm_goto 25), (24, zm_push 25 (-1)), (25, zm_iret)]
theorem zmc_197_0 (l : Launch) : zAll l "ChessWireModel" prog_14_method_20_code 3 false (some .int) zcl_197_0 :=
  zA_c (zOk_fl zn_iload (zs_iload_n (q := 2) rfl (by decide +kernel))) <|
  zA_c (zOk_fl zn_aload (zs_aload_n (q := 0) rfl (by decide +kernel))) <|
  zA_c (zOk_fl zn_getR (zs_getR (k := 6) rfl (by decide) (by decide +kernel) rfl (by decide +kernel) zw_1185)) <|
  zA_c (zOk_fl zn_iload (zs_iload_n (q := 1) rfl (by decide +kernel))) <|
  zA_c (zOk_fl zn_ald (zs_iald (by decide +kernel))) <|
  zA_c (zOk_fl zn_icge (zs_icge (off := 17) (by decide +kernel) (by decide))) <|
  zA_c (zOk_fl zn_aload (zs_aload_n (q := 0) rfl (by decide +kernel))) <|
  zA_c (zOk_fl zn_getR (zs_getR (k := 5) rfl (by decide) (by decide +kernel) rfl (by decide +kernel) zw_1184)) <|
  zA_c (zOk_fl zn_iload (zs_iload_n (q := 1) rfl (by decide +kernel))) <|
  zA_c (zk_S zq_198 zw_1160 (by decide +kernel)) <|
  zA_c (zOk_fl zn_iload (zs_iload_n (q := 2) rfl (by decide +kernel))) <|
  zA_c (zOk_fl zn_bin (zs_iadd (by decide +kernel))) <|
  zA_c (zOk_fl zn_ald (zs_iald (by decide +kernel))) <|
  zA_c (zOk_fl zn_goto (zs_goto (off := 4) (by decide +kernel) (by decide))) <|
  zA_c (zOk_fl zn_push (zs_iconst (n := (-1)) (by decide +kernel) rfl)) <|
  zA_c (zs_iret (by decide +kernel) rfl) <|
  zA_n
def zc_197 : Nat → zmI := zgetC [zcl_197_0]
theorem zmf_197 (l : Launch) : zMf l zc_197 197 := ⟨by decide +kernel, false, (fun h => by cases h), fun pc => zgetC_ok (zA2_c (zmc_197_0 l) (zA2_n)) pc⟩
def zcl_198_0 : List (Nat × zmI) := [(0, zm_iload 1 0), (1, zm_ifne 4 8), (4, zm_push 5 0), (5, zm_goto 20), (8, zm_iload 9 0), (9, zm_push 10 1), (10, zm_icne 13 18), (13, zm_push 15 80), (15, zm_goto 20), (18, zm_push 20 90), (20, zm_iret)]
theorem zmc_198_0 (l : Launch) : zAll l "ChessWireModel" prog_14_method_17_code 1 false (some .int) zcl_198_0 :=
  zA_c (zOk_fl zn_iload (zs_iload_n (q := 0) rfl (by decide +kernel))) <|
  zA_c (zOk_fl zn_ifne (zs_ifne (off := 7) (by decide +kernel) (by decide))) <|
  zA_c (zOk_fl zn_push (zs_iconst (n := 0) (by decide +kernel) rfl)) <|
  zA_c (zOk_fl zn_goto (zs_goto (off := 15) (by decide +kernel) (by decide))) <|
  zA_c (zOk_fl zn_iload (zs_iload_n (q := 0) rfl (by decide +kernel))) <|
  zA_c (zOk_fl zn_push (zs_iconst (n := 1) (by decide +kernel) rfl)) <|
  zA_c (zOk_fl zn_icne (zs_icne (off := 8) (by decide +kernel) (by decide))) <|
  zA_c (zOk_fl zn_push (zs_bipush (n := 80) (by decide +kernel) rfl)) <|
  zA_c (zOk_fl zn_goto (zs_goto (off := 5) (by decide +kernel) (by decide))) <|
  zA_c (zOk_fl zn_push (zs_bipush (n := 90) (by decide +kernel) rfl)) <|
  zA_c (zs_iret (by decide +kernel) rfl) <|
  zA_n
def zc_198 : Nat → zmI := zgetC [zcl_198_0]
theorem zmf_198 (l : Launch) : zMf l zc_198 198 := ⟨by decide +kernel, false, (fun h => by cases h), fun pc => zgetC_ok (zA2_c (zmc_198_0 l) (zA2_n)) pc⟩
def zcl_199_0 : List (Nat × zmI) := [(0, zm_iload 1 0), (1, zm_tsw 243 66 114 [216, 243, 243, 243, 243, 243, 243, 243, 243, 222, 243, 243, 214, 243, 212, 220, 218, 243, 243, 243, 243, 243, 243, 243, 243, 243, 243, 243, 243, 243, 243, 243, 231, 243, 243, 243, 243, 243, 243, 243, 243, 240, 243, 243, 228, 243, 225, 237, 234])]
theorem zmc_199_0 (l : Launch) : zAll l "ChessWireModel" prog_14_method_21_code 1 false (some .int) zcl_199_0 :=
  zA_c (zOk_fl zn_iload (zs_iload_n (q := 0) rfl (by decide +kernel))) <|
  zA_c (zOk_fl zn_tsw (zs_tsw (d0 := 242) (offs := #[215, 242, 242, 242, 242, 242, 242, 242, 242, 221, 242, 242, 213, 242, 211, 219, 217, 242, 242, 242, 242, 242, 242, 242, 242, 242, 242, 242, 242, 242, 242, 242, 230, 242, 242, 242, 242, 242, 242, 242, 242, 239, 242, 242, 227, 242, 224, 236, 233]) (len := 211) (by decide +kernel) (by decide) (by decide) (by decide))) <|
  zA_n
def zcl_199_1 : List (Nat × zmI) := []
theorem zmc_199_1 (l : Launch) : zAll l "ChessWireModel" prog_14_method_21_code 1 false (some .int) zcl_199_1 :=
  zA_n
def zcl_199_2 : List (Nat × zmI) := []
theorem zmc_199_2 (l : Launch) : zAll l "ChessWireModel" prog_14_method_21_code 1 false (some .int) zcl_199_2 :=
  zA_n
def zcl_199_3 : List (Nat × zmI) := []
theorem zmc_199_3 (l : Launch) : zAll l "ChessWireModel" prog_14_method_21_code 1 false (some .int) zcl_199_3 :=
  zA_n
def zcl_199_4 : List (Nat × zmI) := []
theorem zmc_199_4 (l : Launch) : zAll l "ChessWireModel" prog_14_method_21_code 1 false (some .int) zcl_199_4 :=
  zA_n
def zcl_199_5 : List (Nat × zmI) := []
theorem zmc_199_5 (l : Launch) : zAll l "ChessWireModel" prog_14_method_21_code 1 false (some .int) zcl_199_5 :=
  zA_n
def zcl_199_6 : List (Nat × zmI) := [(212, zm_push 213 1), (213, zm_iret), (214, zm_push 215 2), (215, zm_iret), (216, zm_push 217 3), (217, zm_iret), (218, zm_push 219 4), (219, zm_iret), (220, zm_push 221 5), (221, zm_iret), (222, zm_push 224 6)]
theorem zmc_199_6 (l : Launch) : zAll l "ChessWireModel" prog_14_method_21_code 1 false (some .int) zcl_199_6 :=
  zA_c (zOk_fl zn_push (zs_iconst (n := 1) (by decide +kernel) rfl)) <|
  zA_c (zs_iret (by decide +kernel) rfl) <|
  zA_c (zOk_fl zn_push (zs_iconst (n := 2) (by decide +kernel) rfl)) <|
  zA_c (zs_iret (by decide +kernel) rfl) <|
  zA_c (zOk_fl zn_push (zs_iconst (n := 3) (by decide +kernel) rfl)) <|
  zA_c (zs_iret (by decide +kernel) rfl) <|
  zA_c (zOk_fl zn_push (zs_iconst (n := 4) (by decide +kernel) rfl)) <|
  zA_c (zs_iret (by decide +kernel) rfl) <|
  zA_c (zOk_fl zn_push (zs_iconst (n := 5) (by decide +kernel) rfl)) <|
  zA_c (zs_iret (by decide +kernel) rfl) <|
  zA_c (zOk_fl zn_push (zs_bipush (n := 6) (by decide +kernel) rfl)) <|
  zA_n
def zcl_199_7 : List (Nat × zmI) := [(224, zm_iret), (225, zm_push 227 9), (227, zm_iret), (228, zm_push 230 10), (230, zm_iret), (231, zm_push 233 11), (233, zm_iret), (234, zm_push 236 12), (236, zm_iret), (237, zm_push 239 13), (239, zm_iret), (240, zm_push 242 14), (242, zm_iret), (243, zm_push 244 0), (244, zm_iret)]
theorem zmc_199_7 (l : Launch) : zAll l "ChessWireModel" prog_14_method_21_code 1 false (some .int) zcl_199_7 :=
  zA_c (zs_iret (by decide +kernel) rfl) <|
  zA_c (zOk_fl zn_push (zs_bipush (n := 9) (by decide +kernel) rfl)) <|
  zA_c (zs_iret (by decide +kernel) rfl) <|
  zA_c (zOk_fl zn_push (zs_bipush (n := 10) (by decide +kernel) rfl)) <|
  zA_c (zs_iret (by decide +kernel) rfl) <|
  zA_c (zOk_fl zn_push (zs_bipush (n := 11) (by decide +kernel) rfl)) <|
  zA_c (zs_iret (by decide +kernel) rfl) <|
  zA_c (zOk_fl zn_push (zs_bipush (n := 12) (by decide +kernel) rfl)) <|
  zA_c (zs_iret (by decide +kernel) rfl) <|
  zA_c (zOk_fl zn_push (zs_bipush (n := 13) (by decide +kernel) rfl)) <|
  zA_c (zs_iret (by decide +kernel) rfl) <|
  zA_c (zOk_fl zn_push (zs_bipush (n := 14) (by decide +kernel) rfl)) <|
  zA_c (zs_iret (by decide +kernel) rfl) <|
  zA_c (zOk_fl zn_push (zs_iconst (n := 0) (by decide +kernel) rfl)) <|
  zA_c (zs_iret (by decide +kernel) rfl) <|
  zA_n
def zc_199 : Nat → zmI := zgetC [zcl_199_0, zcl_199_1, zcl_199_2, zcl_199_3, zcl_199_4, zcl_199_5, zcl_199_6, zcl_199_7]
theorem zmf_199 (l : Launch) : zMf l zc_199 199 := ⟨by decide +kernel, false, (fun h => by cases h), fun pc => zgetC_ok (zA2_c (zmc_199_0 l) (zA2_c (zmc_199_1 l) (zA2_c (zmc_199_2 l) (zA2_c (zmc_199_3 l) (zA2_c (zmc_199_4 l) (zA2_c (zmc_199_5 l) (zA2_c (zmc_199_6 l) (zA2_c (zmc_199_7 l) (zA2_n))))))))) pc⟩
def zcl_200_0 : List (Nat × zmI) := [(0, zm_push 1 0), (1, zm_istore 2 2), (2, zm_push 3 0), (3, zm_istore 4 3), (4, zm_iload 5 3), (5, zm_push 7 64), (7, zm_icge 10 34), (10, zm_iload 11 2), (11, zm_aload 12 0), (12, zm_getR 15 12 8), (15, zm_iload 16 3), (16, zm_ald 17 100), (17, zm_iload 18 1), (18, zm_icne 21 25), (21, zm_push 22 1), (22, zm_goto 26), (25, zm_push 26 0), (26, zm_bin 27 (fun x y => w32 (x + y))), (27, zm_istore 28 2), (28, zm_iinc 31 3 1), (31, zm_goto 4)]
theorem zmc_200_0 (l : Launch) : zAll l "ChessWireModel" prog_14_method_24_code 4 false (some .int) zcl_200_0 :=
  zA_c (zOk_fl zn_push (zs_iconst (n := 0) (by decide +kernel) rfl)) <|
  zA_c (zOk_fl zn_istore (zs_istore_n (q := 2) rfl (by decide +kernel))) <|
  zA_c (zOk_fl zn_push (zs_iconst (n := 0) (by decide +kernel) rfl)) <|
  zA_c (zOk_fl zn_istore (zs_istore_n (q := 3) rfl (by decide +kernel))) <|
  zA_c (zOk_fl zn_iload (zs_iload_n (q := 3) rfl (by decide +kernel))) <|
  zA_c (zOk_fl zn_push (zs_bipush (n := 64) (by decide +kernel) rfl)) <|
  zA_c (zOk_fl zn_icge (zs_icge (off := 27) (by decide +kernel) (by decide))) <|
  zA_c (zOk_fl zn_iload (zs_iload_n (q := 2) rfl (by decide +kernel))) <|
  zA_c (zOk_fl zn_aload (zs_aload_n (q := 0) rfl (by decide +kernel))) <|
  zA_c (zOk_fl zn_getR (zs_getR (k := 8) rfl (by decide) (by decide +kernel) rfl (by decide +kernel) zw_1187)) <|
  zA_c (zOk_fl zn_iload (zs_iload_n (q := 3) rfl (by decide +kernel))) <|
  zA_c (zOk_fl zn_ald (zs_iald (by decide +kernel))) <|
  zA_c (zOk_fl zn_iload (zs_iload_n (q := 1) rfl (by decide +kernel))) <|
  zA_c (zOk_fl zn_icne (zs_icne (off := 7) (by decide +kernel) (by decide))) <|
  zA_c (zOk_fl zn_push (zs_iconst (n := 1) (by decide +kernel) rfl)) <|
  zA_c (zOk_fl zn_goto (zs_goto (off := 4) (by decide +kernel) (by decide))) <|
  zA_c (zOk_fl zn_push (zs_iconst (n := 0) (by decide +kernel) rfl)) <|
  zA_c (zOk_fl zn_bin (zs_iadd (by decide +kernel))) <|
  zA_c (zOk_fl zn_istore (zs_istore_n (q := 2) rfl (by decide +kernel))) <|
  zA_c (zOk_fl zn_iinc (zs_iinc rfl (by decide +kernel))) <|
  zA_c (zOk_fl zn_goto (zs_goto (off := (-27)) (by decide +kernel) (by decide))) <|
  zA_n
def zcl_200_1 : List (Nat × zmI) := [(34, zm_iload 35 2), (35, zm_iret)]
theorem zmc_200_1 (l : Launch) : zAll l "ChessWireModel" prog_14_method_24_code 4 false (some .int) zcl_200_1 :=
  zA_c (zOk_fl zn_iload (zs_iload_n (q := 2) rfl (by decide +kernel))) <|
  zA_c (zs_iret (by decide +kernel) rfl) <|
  zA_n
def zc_200 : Nat → zmI := zgetC [zcl_200_0, zcl_200_1]
theorem zmf_200 (l : Launch) : zMf l zc_200 200 := ⟨by decide +kernel, false, (fun h => by cases h), fun pc => zgetC_ok (zA2_c (zmc_200_0 l) (zA2_c (zmc_200_1 l) (zA2_n))) pc⟩
def zcl_201_0 : List (Nat × zmI) := [(0, zm_lload 1 0), (1, zm_lload 2 2), (2, zm_lcmp 3), (3, zm_iflt 6 17), (6, zm_lload 7 0), (7, zm_lload 9 4), (9, zm_lcmp 10), (10, zm_ifgt 13 17), (13, zm_push 14 1), (14, zm_goto 18), (17, zm_push 18 0), (18, zm_zret)]
theorem zmc_201_0 (l : Launch) : zAll l "ChessWireModel" prog_14_method_3_code 6 false (some .boolean) zcl_201_0 :=
  zA_c (zOk_fl zn_lload (zs_lload_n (q := 0) rfl (by decide +kernel))) <|
  zA_c (zOk_fl zn_lload (zs_lload_n (q := 2) rfl (by decide +kernel))) <|
  zA_c (zOk_fl zn_lcmp (zs_lcmp (by decide +kernel))) <|
  zA_c (zOk_fl zn_iflt (zs_iflt (off := 14) (by decide +kernel) (by decide))) <|
  zA_c (zOk_fl zn_lload (zs_lload_n (q := 0) rfl (by decide +kernel))) <|
  zA_c (zOk_fl zn_lload (zs_lload (by decide +kernel))) <|
  zA_c (zOk_fl zn_lcmp (zs_lcmp (by decide +kernel))) <|
  zA_c (zOk_fl zn_ifgt (zs_ifgt (off := 7) (by decide +kernel) (by decide))) <|
  zA_c (zOk_fl zn_push (zs_iconst (n := 1) (by decide +kernel) rfl)) <|
  zA_c (zOk_fl zn_goto (zs_goto (off := 4) (by decide +kernel) (by decide))) <|
  zA_c (zOk_fl zn_push (zs_iconst (n := 0) (by decide +kernel) rfl)) <|
  zA_c (zs_zret (by decide +kernel) rfl) <|
  zA_n
def zc_201 : Nat → zmI := zgetC [zcl_201_0]
theorem zmf_201 (l : Launch) : zMf l zc_201 201 := ⟨by decide +kernel, false, (fun h => by cases h), fun pc => zgetC_ok (zA2_c (zmc_201_0 l) (zA2_n)) pc⟩
def zcl_202_0 : List (Nat × zmI) := [(0, zm_aload 1 0), (1, zm_push 2 0), (2, zm_aload 3 0), (3, zm_getI 6 12 7), (6, zm_call 9 197 3 true 12), (9, zm_iload 10 1), (10, zm_iceq 13 15), (13, zm_push 14 0), (14, zm_zret), (15, zm_aload 16 0), (16, zm_dup 17), (17, zm_getI 20 12 7), (20, zm_push 21 1), (21, zm_bin 22 (fun x y => w32 (x + y))), (22, zm_putI 25 12 7), (25, zm_push 26 1), (26, zm_zret)]
theorem zmc_202_0 (l : Launch) : zAll l "ChessWireModel" prog_14_method_26_code 2 false (some .boolean) zcl_202_0 :=
  zA_c (zOk_fl zn_aload (zs_aload_n (q := 0) rfl (by decide +kernel))) <|
  zA_c (zOk_fl zn_push (zs_iconst (n := 0) (by decide +kernel) rfl)) <|
  zA_c (zOk_fl zn_aload (zs_aload_n (q := 0) rfl (by decide +kernel))) <|
  zA_c (zOk_fl zn_getI (zs_getI (k := 7) rfl (by decide) (by decide +kernel) rfl (by decide +kernel) zw_1186)) <|
  zA_c (zk_V zq_197 zw_1156 rfl (by decide +kernel)) <|
  zA_c (zOk_fl zn_iload (zs_iload_n (q := 1) rfl (by decide +kernel))) <|
  zA_c (zOk_fl zn_iceq (zs_iceq (off := 5) (by decide +kernel) (by decide))) <|
  zA_c (zOk_fl zn_push (zs_iconst (n := 0) (by decide +kernel) rfl)) <|
  zA_c (zs_zret (by decide +kernel) rfl) <|
  zA_c (zOk_fl zn_aload (zs_aload_n (q := 0) rfl (by decide +kernel))) <|
  zA_c (zOk_fl zn_dup (zs_dup (by decide +kernel))) <|
  zA_c (zOk_fl zn_getI (zs_getI (k := 7) rfl (by decide) (by decide +kernel) rfl (by decide +kernel) zw_1186)) <|
  zA_c (zOk_fl zn_push (zs_iconst (n := 1) (by decide +kernel) rfl)) <|
  zA_c (zOk_fl zn_bin (zs_iadd (by decide +kernel))) <|
  zA_c (zOk_sn zn_putI (zs_putI (k := 7) rfl (by decide) (by decide +kernel) rfl rfl (by decide +kernel) zw_1186)) <|
  zA_c (zOk_fl zn_push (zs_iconst (n := 1) (by decide +kernel) rfl)) <|
  zA_c (zs_zret (by decide +kernel) rfl) <|
  zA_n
def zc_202 : Nat → zmI := zgetC [zcl_202_0]
theorem zmf_202 (l : Launch) : zMf l zc_202 202 := ⟨by decide +kernel, false, (fun h => by cases h), fun pc => zgetC_ok (zA2_c (zmc_202_0 l) (zA2_n)) pc⟩
def zcl_203_0 : List (Nat × zmI) := [(0, zm_iload 1 1), (1, zm_call 4 204 1 true 99), (4, zm_ifeq 7 25), (7, zm_iload 8 2), (8, zm_i2l 9), (9, zm_pushl 10 0), (10, zm_pushl 13 2), (13, zm_call 16 201 3 true 99), (16, zm_ifeq 19 25), (19, zm_iload 20 3), (20, zm_push 22 60), (22, zm_icle 25 28), (25, zm_push 27 (-2)), (27, zm_iret), (28, zm_iload 29 3), (29, zm_ifge 32 38)]
theorem zmc_203_0 (l : Launch) : zAll l "ChessWireModel" prog_14_method_9_code 5 false (some .int) zcl_203_0 :=
  zA_c (zOk_fl zn_iload (zs_iload_n (q := 1) rfl (by decide +kernel))) <|
  zA_c (zk_S zq_204 zw_1299 (by decide +kernel)) <|
  zA_c (zOk_fl zn_ifeq (zs_ifeq (off := 21) (by decide +kernel) (by decide))) <|
  zA_c (zOk_fl zn_iload (zs_iload_n (q := 2) rfl (by decide +kernel))) <|
  zA_c (zOk_fl zn_i2l (zs_i2l (by decide +kernel))) <|
  zA_c (zOk_fl zn_pushl (zs_lconst (n := 0) (by decide +kernel) rfl)) <|
  zA_c (zOk_fl zn_pushl (zs_ldc2 (by decide +kernel) zw_1303 rfl)) <|
  zA_c (zk_S zq_201 zw_1172 (by decide +kernel)) <|
  zA_c (zOk_fl zn_ifeq (zs_ifeq (off := 9) (by decide +kernel) (by decide))) <|
  zA_c (zOk_fl zn_iload (zs_iload_n (q := 3) rfl (by decide +kernel))) <|
  zA_c (zOk_fl zn_push (zs_bipush (n := 60) (by decide +kernel) rfl)) <|
  zA_c (zOk_fl zn_icle (zs_icle (off := 6) (by decide +kernel) (by decide))) <|
  zA_c (zOk_fl zn_push (zs_bipush (n := (-2)) (by decide +kernel) rfl)) <|
  zA_c (zs_iret (by decide +kernel) rfl) <|
  zA_c (zOk_fl zn_iload (zs_iload_n (q := 3) rfl (by decide +kernel))) <|
  zA_c (zOk_fl zn_ifge (zs_ifge (off := 9) (by decide +kernel) (by decide))) <|
  zA_n
def zcl_203_1 : List (Nat × zmI) := [(32, zm_aload 33 0), (33, zm_push 34 5), (34, zm_call 37 205 2 true 12), (37, zm_iret), (38, zm_aload 39 0), (39, zm_getR 42 12 0), (42, zm_iload 43 1), (43, zm_iload 44 2), (44, zm_iast 45), (45, zm_aload 46 0), (46, zm_getR 49 12 1), (49, zm_iload 50 1), (50, zm_iload 51 3), (51, zm_iast 52), (52, zm_push 53 0), (53, zm_istore 55 4), (55, zm_iload 57 4), (57, zm_iload 58 3), (58, zm_icge 61 80), (61, zm_aload 62 0), (62, zm_getR 65 12 2)]
theorem zmc_203_1 (l : Launch) : zAll l "ChessWireModel" prog_14_method_9_code 5 false (some .int) zcl_203_1 :=
  zA_c (zOk_fl zn_aload (zs_aload_n (q := 0) rfl (by decide +kernel))) <|
  zA_c (zOk_fl zn_push (zs_iconst (n := 5) (by decide +kernel) rfl)) <|
  zA_c (zk_V zq_205 zw_1304 rfl (by decide +kernel)) <|
  zA_c (zs_iret (by decide +kernel) rfl) <|
  zA_c (zOk_fl zn_aload (zs_aload_n (q := 0) rfl (by decide +kernel))) <|
  zA_c (zOk_fl zn_getR (zs_getR (k := 0) rfl (by decide) (by decide +kernel) rfl (by decide +kernel) zw_1179)) <|
  zA_c (zOk_fl zn_iload (zs_iload_n (q := 1) rfl (by decide +kernel))) <|
  zA_c (zOk_fl zn_iload (zs_iload_n (q := 2) rfl (by decide +kernel))) <|
  zA_c (zOk_sn zn_iast (zs_iast (by decide +kernel))) <|
  zA_c (zOk_fl zn_aload (zs_aload_n (q := 0) rfl (by decide +kernel))) <|
  zA_c (zOk_fl zn_getR (zs_getR (k := 1) rfl (by decide) (by decide +kernel) rfl (by decide +kernel) zw_1180)) <|
  zA_c (zOk_fl zn_iload (zs_iload_n (q := 1) rfl (by decide +kernel))) <|
  zA_c (zOk_fl zn_iload (zs_iload_n (q := 3) rfl (by decide +kernel))) <|
  zA_c (zOk_sn zn_iast (zs_iast (by decide +kernel))) <|
  zA_c (zOk_fl zn_push (zs_iconst (n := 0) (by decide +kernel) rfl)) <|
  zA_c (zOk_fl zn_istore (zs_istore (by decide +kernel))) <|
  zA_c (zOk_fl zn_iload (zs_iload (by decide +kernel))) <|
  zA_c (zOk_fl zn_iload (zs_iload_n (q := 3) rfl (by decide +kernel))) <|
  zA_c (zOk_fl zn_icge (zs_icge (off := 22) (by decide +kernel) (by decide))) <|
  zA_c (zOk_fl zn_aload (zs_aload_n (q := 0) rfl (by decide +kernel))) <|
  zA_c (zOk_fl zn_getR (zs_getR (k := 2) rfl (by decide) (by decide +kernel) rfl (by decide +kernel) zw_1181)) <|
  zA_n
def zcl_203_2 : List (Nat × zmI) := [(65, zm_push 67 60), (67, zm_iload 68 1), (68, zm_bin 69 (fun x y => w32 (x * y))), (69, zm_iload 71 4), (71, zm_bin 72 (fun x y => w32 (x + y))), (72, zm_push 73 0), (73, zm_iast 74), (74, zm_iinc 77 4 1), (77, zm_goto 55), (80, zm_iload 81 3), (81, zm_iret)]
theorem zmc_203_2 (l : Launch) : zAll l "ChessWireModel" prog_14_method_9_code 5 false (some .int) zcl_203_2 :=
  zA_c (zOk_fl zn_push (zs_bipush (n := 60) (by decide +kernel) rfl)) <|
  zA_c (zOk_fl zn_iload (zs_iload_n (q := 1) rfl (by decide +kernel))) <|
  zA_c (zOk_fl zn_bin (zs_imul (by decide +kernel))) <|
  zA_c (zOk_fl zn_iload (zs_iload (by decide +kernel))) <|
  zA_c (zOk_fl zn_bin (zs_iadd (by decide +kernel))) <|
  zA_c (zOk_fl zn_push (zs_iconst (n := 0) (by decide +kernel) rfl)) <|
  zA_c (zOk_sn zn_iast (zs_iast (by decide +kernel))) <|
  zA_c (zOk_fl zn_iinc (zs_iinc rfl (by decide +kernel))) <|
  zA_c (zOk_fl zn_goto (zs_goto (off := (-22)) (by decide +kernel) (by decide))) <|
  zA_c (zOk_fl zn_iload (zs_iload_n (q := 3) rfl (by decide +kernel))) <|
  zA_c (zs_iret (by decide +kernel) rfl) <|
  zA_n
def zc_203 : Nat → zmI := zgetC [zcl_203_0, zcl_203_1, zcl_203_2]
theorem zmf_203 (l : Launch) : zMf l zc_203 203 := ⟨by decide +kernel, false, (fun h => by cases h), fun pc => zgetC_ok (zA2_c (zmc_203_0 l) (zA2_c (zmc_203_1 l) (zA2_c (zmc_203_2 l) (zA2_n)))) pc⟩
def zcl_204_0 : List (Nat × zmI) := [(0, zm_iload 1 0), (1, zm_i2l 2), (2, zm_pushl 3 0), (3, zm_pushl 6 3), (6, zm_call 9 201 3 true 99), (9, zm_zret)]
theorem zmc_204_0 (l : Launch) : zAll l "ChessWireModel" prog_14_method_8_code 1 false (some .boolean) zcl_204_0 :=
  zA_c (zOk_fl zn_iload (zs_iload_n (q := 0) rfl (by decide +kernel))) <|
  zA_c (zOk_fl zn_i2l (zs_i2l (by decide +kernel))) <|
  zA_c (zOk_fl zn_pushl (zs_lconst (n := 0) (by decide +kernel) rfl)) <|
  zA_c (zOk_fl zn_pushl (zs_ldc2 (by decide +kernel) zw_1302 rfl)) <|
  zA_c (zk_S zq_201 zw_1172 (by decide +kernel)) <|
  zA_c (zs_zret (by decide +kernel) rfl) <|
  zA_n
def zc_204 : Nat → zmI := zgetC [zcl_204_0]
theorem zmf_204 (l : Launch) : zMf l zc_204 204 := ⟨by decide +kernel, false, (fun h => by cases h), fun pc => zgetC_ok (zA2_c (zmc_204_0 l) (zA2_n)) pc⟩
def zcl_205_0 : List (Nat × zmI) := [(0, zm_aload 1 0), (1, zm_iload 2 1), (2, zm_putI 5 12 4), (5, zm_push 7 (-10)), (7, zm_iload 8 1), (8, zm_bin 9 (fun x y => w32 (x - y))), (9, zm_iret)]
theorem zmc_205_0 (l : Launch) : zAll l "ChessWireModel" prog_14_method_7_code 2 false (some .int) zcl_205_0 :=
  zA_c (zOk_fl zn_aload (zs_aload_n (q := 0) rfl (by decide +kernel))) <|
  zA_c (zOk_fl zn_iload (zs_iload_n (q := 1) rfl (by decide +kernel))) <|
  zA_c (zOk_sn zn_putI (zs_putI (k := 4) rfl (by decide) (by decide +kernel) rfl rfl (by decide +kernel) zw_1183)) <|
  zA_c (zOk_fl zn_push (zs_bipush (n := (-10)) (by decide +kernel) rfl)) <|
  zA_c (zOk_fl zn_iload (zs_iload_n (q := 1) rfl (by decide +kernel))) <|
  zA_c (zOk_fl zn_bin (zs_isub (by decide +kernel))) <|
  zA_c (zs_iret (by decide +kernel) rfl) <|
  zA_n
def zc_205 : Nat → zmI := zgetC [zcl_205_0]
theorem zmf_205 (l : Launch) : zMf l zc_205 205 := ⟨by decide +kernel, false, (fun h => by cases h), fun pc => zgetC_ok (zA2_c (zmc_205_0 l) (zA2_n)) pc⟩
def zcl_206_0 : List (Nat × zmI) := [(0, zm_iload 1 1), (1, zm_call 4 204 1 true 99), (4, zm_ifne 7 10), (7, zm_push 9 (-2)), (9, zm_iret), (10, zm_aload 11 0), (11, zm_getR 14 12 0), (14, zm_iload 15 1), (15, zm_ald 16 100), (16, zm_ifge 19 25), (19, zm_aload 20 0), (20, zm_push 21 1), (21, zm_call 24 205 2 true 12), (24, zm_iret), (25, zm_aload 26 0), (26, zm_getR 29 12 0), (29, zm_iload 30 1), (30, zm_push 31 (-1)), (31, zm_iast 32)]
theorem zmc_206_0 (l : Launch) : zAll l "ChessWireModel" prog_14_method_10_code 2 false (some .int) zcl_206_0 :=
  zA_c (zOk_fl zn_iload (zs_iload_n (q := 1) rfl (by decide +kernel))) <|
  zA_c (zk_S zq_204 zw_1299 (by decide +kernel)) <|
  zA_c (zOk_fl zn_ifne (zs_ifne (off := 6) (by decide +kernel) (by decide))) <|
  zA_c (zOk_fl zn_push (zs_bipush (n := (-2)) (by decide +kernel) rfl)) <|
  zA_c (zs_iret (by decide +kernel) rfl) <|
  zA_c (zOk_fl zn_aload (zs_aload_n (q := 0) rfl (by decide +kernel))) <|
  zA_c (zOk_fl zn_getR (zs_getR (k := 0) rfl (by decide) (by decide +kernel) rfl (by decide +kernel) zw_1179)) <|
  zA_c (zOk_fl zn_iload (zs_iload_n (q := 1) rfl (by decide +kernel))) <|
  zA_c (zOk_fl zn_ald (zs_iald (by decide +kernel))) <|
  zA_c (zOk_fl zn_ifge (zs_ifge (off := 9) (by decide +kernel) (by decide))) <|
  zA_c (zOk_fl zn_aload (zs_aload_n (q := 0) rfl (by decide +kernel))) <|
  zA_c (zOk_fl zn_push (zs_iconst (n := 1) (by decide +kernel) rfl)) <|
  zA_c (zk_V zq_205 zw_1304 rfl (by decide +kernel)) <|
  zA_c (zs_iret (by decide +kernel) rfl) <|
  zA_c (zOk_fl zn_aload (zs_aload_n (q := 0) rfl (by decide +kernel))) <|
  zA_c (zOk_fl zn_getR (zs_getR (k := 0) rfl (by decide) (by decide +kernel) rfl (by decide +kernel) zw_1179)) <|
  zA_c (zOk_fl zn_iload (zs_iload_n (q := 1) rfl (by decide +kernel))) <|
  zA_c (zOk_fl zn_push (zs_iconst (n := (-1)) (by decide +kernel) rfl)) <|
  zA_c (zOk_sn zn_iast (zs_iast (by decide +kernel))) <|
  zA_n
def zcl_206_1 : List (Nat × zmI) := [(32, zm_aload 33 0), (33, zm_getR 36 12 1), (36, zm_iload 37 1), (37, zm_ald 38 100), (38, zm_iret)]
theorem zmc_206_1 (l : Launch) : zAll l "ChessWireModel" prog_14_method_10_code 2 false (some .int) zcl_206_1 :=
  zA_c (zOk_fl zn_aload (zs_aload_n (q := 0) rfl (by decide +kernel))) <|
  zA_c (zOk_fl zn_getR (zs_getR (k := 1) rfl (by decide) (by decide +kernel) rfl (by decide +kernel) zw_1180)) <|
  zA_c (zOk_fl zn_iload (zs_iload_n (q := 1) rfl (by decide +kernel))) <|
  zA_c (zOk_fl zn_ald (zs_iald (by decide +kernel))) <|
  zA_c (zs_iret (by decide +kernel) rfl) <|
  zA_n
def zc_206 : Nat → zmI := zgetC [zcl_206_0, zcl_206_1]
theorem zmf_206 (l : Launch) : zMf l zc_206 206 := ⟨by decide +kernel, false, (fun h => by cases h), fun pc => zgetC_ok (zA2_c (zmc_206_0 l) (zA2_c (zmc_206_1 l) (zA2_n))) pc⟩
def zcl_207_0 : List (Nat × zmI) := [(0, zm_iload 1 1), (1, zm_call 4 204 1 true 99), (4, zm_ifeq 7 19), (7, zm_iload 8 2), (8, zm_i2l 9), (9, zm_pushl 10 0), (10, zm_pushl 13 2), (13, zm_call 16 201 3 true 99), (16, zm_ifne 19 22), (19, zm_push 21 (-2)), (21, zm_iret), (22, zm_aload 23 0), (23, zm_iload 24 1), (24, zm_iload 25 2), (25, zm_iload 26 3), (26, zm_call 29 208 4 true 12), (29, zm_istore 31 5), (31, zm_iload 33 5)]
theorem zmc_207_0 (l : Launch) : zAll l "ChessWireModel" prog_14_method_13_code 6 false (some .int) zcl_207_0 :=
  zA_c (zOk_fl zn_iload (zs_iload_n (q := 1) rfl (by decide +kernel))) <|
  zA_c (zk_S zq_204 zw_1299 (by decide +kernel)) <|
  zA_c (zOk_fl zn_ifeq (zs_ifeq (off := 15) (by decide +kernel) (by decide))) <|
  zA_c (zOk_fl zn_iload (zs_iload_n (q := 2) rfl (by decide +kernel))) <|
  zA_c (zOk_fl zn_i2l (zs_i2l (by decide +kernel))) <|
  zA_c (zOk_fl zn_pushl (zs_lconst (n := 0) (by decide +kernel) rfl)) <|
  zA_c (zOk_fl zn_pushl (zs_ldc2 (by decide +kernel) zw_1303 rfl)) <|
  zA_c (zk_S zq_201 zw_1172 (by decide +kernel)) <|
  zA_c (zOk_fl zn_ifne (zs_ifne (off := 6) (by decide +kernel) (by decide))) <|
  zA_c (zOk_fl zn_push (zs_bipush (n := (-2)) (by decide +kernel) rfl)) <|
  zA_c (zs_iret (by decide +kernel) rfl) <|
  zA_c (zOk_fl zn_aload (zs_aload_n (q := 0) rfl (by decide +kernel))) <|
  zA_c (zOk_fl zn_iload (zs_iload_n (q := 1) rfl (by decide +kernel))) <|
  zA_c (zOk_fl zn_iload (zs_iload_n (q := 2) rfl (by decide +kernel))) <|
  zA_c (zOk_fl zn_iload (zs_iload_n (q := 3) rfl (by decide +kernel))) <|
  zA_c (zk_V zq_208 zw_1316 rfl (by decide +kernel)) <|
  zA_c (zOk_fl zn_istore (zs_istore (by decide +kernel))) <|
  zA_c (zOk_fl zn_iload (zs_iload (by decide +kernel))) <|
  zA_n
def zcl_207_1 : List (Nat × zmI) := [(33, zm_ifeq 36 39), (36, zm_iload 38 5), (38, zm_iret), (39, zm_aload 40 0), (40, zm_getR 43 12 2), (43, zm_push 45 60), (45, zm_iload 46 1), (46, zm_bin 47 (fun x y => w32 (x * y))), (47, zm_iload 48 3), (48, zm_bin 49 (fun x y => w32 (x + y))), (49, zm_iload 50 2), (50, zm_iload 52 4), (52, zm_call 55 209 2 true 99), (55, zm_iast 56), (56, zm_push 57 1), (57, zm_iret)]
theorem zmc_207_1 (l : Launch) : zAll l "ChessWireModel" prog_14_method_13_code 6 false (some .int) zcl_207_1 :=
  zA_c (zOk_fl zn_ifeq (zs_ifeq (off := 6) (by decide +kernel) (by decide))) <|
  zA_c (zOk_fl zn_iload (zs_iload (by decide +kernel))) <|
  zA_c (zs_iret (by decide +kernel) rfl) <|
  zA_c (zOk_fl zn_aload (zs_aload_n (q := 0) rfl (by decide +kernel))) <|
  zA_c (zOk_fl zn_getR (zs_getR (k := 2) rfl (by decide) (by decide +kernel) rfl (by decide +kernel) zw_1181)) <|
  zA_c (zOk_fl zn_push (zs_bipush (n := 60) (by decide +kernel) rfl)) <|
  zA_c (zOk_fl zn_iload (zs_iload_n (q := 1) rfl (by decide +kernel))) <|
  zA_c (zOk_fl zn_bin (zs_imul (by decide +kernel))) <|
  zA_c (zOk_fl zn_iload (zs_iload_n (q := 3) rfl (by decide +kernel))) <|
  zA_c (zOk_fl zn_bin (zs_iadd (by decide +kernel))) <|
  zA_c (zOk_fl zn_iload (zs_iload_n (q := 2) rfl (by decide +kernel))) <|
  zA_c (zOk_fl zn_iload (zs_iload (by decide +kernel))) <|
  zA_c (zk_S zq_209 zw_1320 (by decide +kernel)) <|
  zA_c (zOk_sn zn_iast (zs_iast (by decide +kernel))) <|
  zA_c (zOk_fl zn_push (zs_iconst (n := 1) (by decide +kernel) rfl)) <|
  zA_c (zs_iret (by decide +kernel) rfl) <|
  zA_n
def zc_207 : Nat → zmI := zgetC [zcl_207_0, zcl_207_1]
theorem zmf_207 (l : Launch) : zMf l zc_207 207 := ⟨by decide +kernel, false, (fun h => by cases h), fun pc => zgetC_ok (zA2_c (zmc_207_0 l) (zA2_c (zmc_207_1 l) (zA2_n))) pc⟩
def zcl_208_0 : List (Nat × zmI) := [(0, zm_aload 1 0), (1, zm_getR 4 12 0), (4, zm_iload 5 1), (5, zm_ald 6 100), (6, zm_ifge 9 15), (9, zm_aload 10 0), (10, zm_push 11 1), (11, zm_call 14 205 2 true 12), (14, zm_iret), (15, zm_aload 16 0), (16, zm_getR 19 12 0), (19, zm_iload 20 1), (20, zm_ald 21 100), (21, zm_iload 22 2), (22, zm_iceq 25 31), (25, zm_aload 26 0), (26, zm_push 27 3), (27, zm_call 30 205 2 true 12), (30, zm_iret), (31, zm_iload 32 3)]
theorem zmc_208_0 (l : Launch) : zAll l "ChessWireModel" prog_14_method_11_code 4 false (some .int) zcl_208_0 :=
  zA_c (zOk_fl zn_aload (zs_aload_n (q := 0) rfl (by decide +kernel))) <|
  zA_c (zOk_fl zn_getR (zs_getR (k := 0) rfl (by decide) (by decide +kernel) rfl (by decide +kernel) zw_1179)) <|
  zA_c (zOk_fl zn_iload (zs_iload_n (q := 1) rfl (by decide +kernel))) <|
  zA_c (zOk_fl zn_ald (zs_iald (by decide +kernel))) <|
  zA_c (zOk_fl zn_ifge (zs_ifge (off := 9) (by decide +kernel) (by decide))) <|
  zA_c (zOk_fl zn_aload (zs_aload_n (q := 0) rfl (by decide +kernel))) <|
  zA_c (zOk_fl zn_push (zs_iconst (n := 1) (by decide +kernel) rfl)) <|
  zA_c (zk_V zq_205 zw_1304 rfl (by decide +kernel)) <|
  zA_c (zs_iret (by decide +kernel) rfl) <|
  zA_c (zOk_fl zn_aload (zs_aload_n (q := 0) rfl (by decide +kernel))) <|
  zA_c (zOk_fl zn_getR (zs_getR (k := 0) rfl (by decide) (by decide +kernel) rfl (by decide +kernel) zw_1179)) <|
  zA_c (zOk_fl zn_iload (zs_iload_n (q := 1) rfl (by decide +kernel))) <|
  zA_c (zOk_fl zn_ald (zs_iald (by decide +kernel))) <|
  zA_c (zOk_fl zn_iload (zs_iload_n (q := 2) rfl (by decide +kernel))) <|
  zA_c (zOk_fl zn_iceq (zs_iceq (off := 9) (by decide +kernel) (by decide))) <|
  zA_c (zOk_fl zn_aload (zs_aload_n (q := 0) rfl (by decide +kernel))) <|
  zA_c (zOk_fl zn_push (zs_iconst (n := 3) (by decide +kernel) rfl)) <|
  zA_c (zk_V zq_205 zw_1304 rfl (by decide +kernel)) <|
  zA_c (zs_iret (by decide +kernel) rfl) <|
  zA_c (zOk_fl zn_iload (zs_iload_n (q := 3) rfl (by decide +kernel))) <|
  zA_n
def zcl_208_1 : List (Nat × zmI) := [(32, zm_i2l 33), (33, zm_pushl 34 0), (34, zm_aload 35 0), (35, zm_getR 38 12 1), (38, zm_iload 39 1), (39, zm_ald 40 100), (40, zm_push 41 1), (41, zm_bin 42 (fun x y => w32 (x - y))), (42, zm_i2l 43), (43, zm_call 46 201 3 true 99), (46, zm_ifeq 49 53), (49, zm_push 50 0), (50, zm_goto 58), (53, zm_aload 54 0), (54, zm_push 55 2), (55, zm_call 58 205 2 true 12), (58, zm_iret)]
theorem zmc_208_1 (l : Launch) : zAll l "ChessWireModel" prog_14_method_11_code 4 false (some .int) zcl_208_1 :=
  zA_c (zOk_fl zn_i2l (zs_i2l (by decide +kernel))) <|
  zA_c (zOk_fl zn_pushl (zs_lconst (n := 0) (by decide +kernel) rfl)) <|
  zA_c (zOk_fl zn_aload (zs_aload_n (q := 0) rfl (by decide +kernel))) <|
  zA_c (zOk_fl zn_getR (zs_getR (k := 1) rfl (by decide) (by decide +kernel) rfl (by decide +kernel) zw_1180)) <|
  zA_c (zOk_fl zn_iload (zs_iload_n (q := 1) rfl (by decide +kernel))) <|
  zA_c (zOk_fl zn_ald (zs_iald (by decide +kernel))) <|
  zA_c (zOk_fl zn_push (zs_iconst (n := 1) (by decide +kernel) rfl)) <|
  zA_c (zOk_fl zn_bin (zs_isub (by decide +kernel))) <|
  zA_c (zOk_fl zn_i2l (zs_i2l (by decide +kernel))) <|
  zA_c (zk_S zq_201 zw_1172 (by decide +kernel)) <|
  zA_c (zOk_fl zn_ifeq (zs_ifeq (off := 7) (by decide +kernel) (by decide))) <|
  zA_c (zOk_fl zn_push (zs_iconst (n := 0) (by decide +kernel) rfl)) <|
  zA_c (zOk_fl zn_goto (zs_goto (off := 8) (by decide +kernel) (by decide))) <|
  zA_c (zOk_fl zn_aload (zs_aload_n (q := 0) rfl (by decide +kernel))) <|
  zA_c (zOk_fl zn_push (zs_iconst (n := 2) (by decide +kernel) rfl)) <|
  zA_c (zk_V zq_205 zw_1304 rfl (by decide +kernel)) <|
  zA_c (zs_iret (by decide +kernel) rfl) <|
  zA_n
def zc_208 : Nat → zmI := zgetC [zcl_208_0, zcl_208_1]
theorem zmf_208 (l : Launch) : zMf l zc_208 208 := ⟨by decide +kernel, false, (fun h => by cases h), fun pc => zgetC_ok (zA2_c (zmc_208_0 l) (zA2_c (zmc_208_1 l) (zA2_n))) pc⟩
def zcl_209_0 : List (Nat × zmI) := [(0, zm_iload 1 0), (1, zm_ifne 4 9), (4, zm_iload 5 1), (5, zm_un 6 z_i2b), (6, zm_goto 20), (9, zm_iload 10 0), (10, zm_push 11 1), (11, zm_icne 14 19), (14, zm_iload 15 1), (15, zm_un 16 z_i2s), (16, zm_goto 20), (19, zm_iload 20 1), (20, zm_iret)]
theorem zmc_209_0 (l : Launch) : zAll l "ChessWireModel" prog_14_method_12_code 2 false (some .int) zcl_209_0 :=
  zA_c (zOk_fl zn_iload (zs_iload_n (q := 0) rfl (by decide +kernel))) <|
  zA_c (zOk_fl zn_ifne (zs_ifne (off := 8) (by decide +kernel) (by decide))) <|
  zA_c (zOk_fl zn_iload (zs_iload_n (q := 1) rfl (by decide +kernel))) <|
  zA_c (zOk_fl zn_un (zs_i2b (by decide +kernel))) <|
  zA_c (zOk_fl zn_goto (zs_goto (off := 14) (by decide +kernel) (by decide))) <|
  zA_c (zOk_fl zn_iload (zs_iload_n (q := 0) rfl (by decide +kernel))) <|
  zA_c (zOk_fl zn_push (zs_iconst (n := 1) (by decide +kernel) rfl)) <|
  zA_c (zOk_fl zn_icne (zs_icne (off := 8) (by decide +kernel) (by decide))) <|
  zA_c (zOk_fl zn_iload (zs_iload_n (q := 1) rfl (by decide +kernel))) <|
  zA_c (zOk_fl zn_un (zs_i2s (by decide +kernel))) <|
  zA_c (zOk_fl zn_goto (zs_goto (off := 4) (by decide +kernel) (by decide))) <|
  zA_c (zOk_fl zn_iload (zs_iload_n (q := 1) rfl (by decide +kernel))) <|
  zA_c (zs_iret (by decide +kernel) rfl) <|
  zA_n
def zc_209 : Nat → zmI := zgetC [zcl_209_0]
theorem zmf_209 (l : Launch) : zMf l zc_209 209 := ⟨by decide +kernel, false, (fun h => by cases h), fun pc => zgetC_ok (zA2_c (zmc_209_0 l) (zA2_n)) pc⟩
def zcl_210_0 : List (Nat × zmI) := [(0, zm_iload 1 1), (1, zm_call 4 204 1 true 99), (4, zm_ifeq 7 29), (7, zm_iload 8 2), (8, zm_i2l 9), (9, zm_pushl 10 0), (10, zm_pushl 13 2), (13, zm_call 16 201 3 true 99), (16, zm_ifeq 19 29), (19, zm_aload 20 0), (20, zm_iload 21 1), (21, zm_iload 22 2), (22, zm_iload 23 3), (23, zm_call 26 208 4 true 12), (26, zm_ifeq 29 32), (29, zm_push 31 (-2147483648)), (31, zm_iret)]
theorem zmc_210_0 (l : Launch) : zAll l "ChessWireModel" prog_14_method_14_code 4 false (some .int) zcl_210_0 :=
  zA_c (zOk_fl zn_iload (zs_iload_n (q := 1) rfl (by decide +kernel))) <|
  zA_c (zk_S zq_204 zw_1299 (by decide +kernel)) <|
  zA_c (zOk_fl zn_ifeq (zs_ifeq (off := 25) (by decide +kernel) (by decide))) <|
  zA_c (zOk_fl zn_iload (zs_iload_n (q := 2) rfl (by decide +kernel))) <|
  zA_c (zOk_fl zn_i2l (zs_i2l (by decide +kernel))) <|
  zA_c (zOk_fl zn_pushl (zs_lconst (n := 0) (by decide +kernel) rfl)) <|
  zA_c (zOk_fl zn_pushl (zs_ldc2 (by decide +kernel) zw_1303 rfl)) <|
  zA_c (zk_S zq_201 zw_1172 (by decide +kernel)) <|
  zA_c (zOk_fl zn_ifeq (zs_ifeq (off := 13) (by decide +kernel) (by decide))) <|
  zA_c (zOk_fl zn_aload (zs_aload_n (q := 0) rfl (by decide +kernel))) <|
  zA_c (zOk_fl zn_iload (zs_iload_n (q := 1) rfl (by decide +kernel))) <|
  zA_c (zOk_fl zn_iload (zs_iload_n (q := 2) rfl (by decide +kernel))) <|
  zA_c (zOk_fl zn_iload (zs_iload_n (q := 3) rfl (by decide +kernel))) <|
  zA_c (zk_V zq_208 zw_1316 rfl (by decide +kernel)) <|
  zA_c (zOk_fl zn_ifeq (zs_ifeq (off := 6) (by decide +kernel) (by decide))) <|
  zA_c (zOk_fl zn_push (zs_ldc (by decide +kernel) zw_1327 rfl)) <|
  zA_c (zs_iret (by decide +kernel) rfl) <|
  zA_n
def zcl_210_1 : List (Nat × zmI) := [(32, zm_aload 33 0), (33, zm_getR 36 12 2), (36, zm_push 38 60), (38, zm_iload 39 1), (39, zm_bin 40 (fun x y => w32 (x * y))), (40, zm_iload 41 3), (41, zm_bin 42 (fun x y => w32 (x + y))), (42, zm_ald 43 100), (43, zm_iret)]
theorem zmc_210_1 (l : Launch) : zAll l "ChessWireModel" prog_14_method_14_code 4 false (some .int) zcl_210_1 :=
  zA_c (zOk_fl zn_aload (zs_aload_n (q := 0) rfl (by decide +kernel))) <|
  zA_c (zOk_fl zn_getR (zs_getR (k := 2) rfl (by decide) (by decide +kernel) rfl (by decide +kernel) zw_1181)) <|
  zA_c (zOk_fl zn_push (zs_bipush (n := 60) (by decide +kernel) rfl)) <|
  zA_c (zOk_fl zn_iload (zs_iload_n (q := 1) rfl (by decide +kernel))) <|
  zA_c (zOk_fl zn_bin (zs_imul (by decide +kernel))) <|
  zA_c (zOk_fl zn_iload (zs_iload_n (q := 3) rfl (by decide +kernel))) <|
  zA_c (zOk_fl zn_bin (zs_iadd (by decide +kernel))) <|
  zA_c (zOk_fl zn_ald (zs_iald (by decide +kernel))) <|
  zA_c (zs_iret (by decide +kernel) rfl) <|
  zA_n
def zc_210 : Nat → zmI := zgetC [zcl_210_0, zcl_210_1]
theorem zmf_210 (l : Launch) : zMf l zc_210 210 := ⟨by decide +kernel, false, (fun h => by cases h), fun pc => zgetC_ok (zA2_c (zmc_210_0 l) (zA2_c (zmc_210_1 l) (zA2_n))) pc⟩
def zcl_211_0 : List (Nat × zmI) := [(0, zm_iload 1 1), (1, zm_call 4 204 1 true 99), (4, zm_ifeq 7 14), (7, zm_iload 8 3), (8, zm_call 11 204 1 true 99), (11, zm_ifne 14 17), (14, zm_push 16 (-2)), (16, zm_iret), (17, zm_aload 18 0), (18, zm_getR 21 12 0), (21, zm_iload 22 1), (22, zm_ald 23 100), (23, zm_iflt 26 35), (26, zm_aload 27 0), (27, zm_getR 30 12 0), (30, zm_iload 31 3), (31, zm_ald 32 100)]
theorem zmc_211_0 (l : Launch) : zAll l "ChessWireModel" prog_14_method_15_code 7 false (some .int) zcl_211_0 :=
  zA_c (zOk_fl zn_iload (zs_iload_n (q := 1) rfl (by decide +kernel))) <|
  zA_c (zk_S zq_204 zw_1299 (by decide +kernel)) <|
  zA_c (zOk_fl zn_ifeq (zs_ifeq (off := 10) (by decide +kernel) (by decide))) <|
  zA_c (zOk_fl zn_iload (zs_iload_n (q := 3) rfl (by decide +kernel))) <|
  zA_c (zk_S zq_204 zw_1299 (by decide +kernel)) <|
  zA_c (zOk_fl zn_ifne (zs_ifne (off := 6) (by decide +kernel) (by decide))) <|
  zA_c (zOk_fl zn_push (zs_bipush (n := (-2)) (by decide +kernel) rfl)) <|
  zA_c (zs_iret (by decide +kernel) rfl) <|
  zA_c (zOk_fl zn_aload (zs_aload_n (q := 0) rfl (by decide +kernel))) <|
  zA_c (zOk_fl zn_getR (zs_getR (k := 0) rfl (by decide) (by decide +kernel) rfl (by decide +kernel) zw_1179)) <|
  zA_c (zOk_fl zn_iload (zs_iload_n (q := 1) rfl (by decide +kernel))) <|
  zA_c (zOk_fl zn_ald (zs_iald (by decide +kernel))) <|
  zA_c (zOk_fl zn_iflt (zs_iflt (off := 12) (by decide +kernel) (by decide))) <|
  zA_c (zOk_fl zn_aload (zs_aload_n (q := 0) rfl (by decide +kernel))) <|
  zA_c (zOk_fl zn_getR (zs_getR (k := 0) rfl (by decide) (by decide +kernel) rfl (by decide +kernel) zw_1179)) <|
  zA_c (zOk_fl zn_iload (zs_iload_n (q := 3) rfl (by decide +kernel))) <|
  zA_c (zOk_fl zn_ald (zs_iald (by decide +kernel))) <|
  zA_n
def zcl_211_1 : List (Nat × zmI) := [(32, zm_ifge 35 41), (35, zm_aload 36 0), (36, zm_push 37 1), (37, zm_call 40 205 2 true 12), (40, zm_iret), (41, zm_aload 42 0), (42, zm_getR 45 12 0), (45, zm_iload 46 1), (46, zm_ald 47 100), (47, zm_aload 48 0), (48, zm_getR 51 12 0), (51, zm_iload 52 3), (52, zm_ald 53 100), (53, zm_iceq 56 62), (56, zm_aload 57 0), (57, zm_push 58 4), (58, zm_call 61 205 2 true 12), (61, zm_iret), (62, zm_iload 63 2), (63, zm_iflt 66 111)]
theorem zmc_211_1 (l : Launch) : zAll l "ChessWireModel" prog_14_method_15_code 7 false (some .int) zcl_211_1 :=
  zA_c (zOk_fl zn_ifge (zs_ifge (off := 9) (by decide +kernel) (by decide))) <|
  zA_c (zOk_fl zn_aload (zs_aload_n (q := 0) rfl (by decide +kernel))) <|
  zA_c (zOk_fl zn_push (zs_iconst (n := 1) (by decide +kernel) rfl)) <|
  zA_c (zk_V zq_205 zw_1304 rfl (by decide +kernel)) <|
  zA_c (zs_iret (by decide +kernel) rfl) <|
  zA_c (zOk_fl zn_aload (zs_aload_n (q := 0) rfl (by decide +kernel))) <|
  zA_c (zOk_fl zn_getR (zs_getR (k := 0) rfl (by decide) (by decide +kernel) rfl (by decide +kernel) zw_1179)) <|
  zA_c (zOk_fl zn_iload (zs_iload_n (q := 1) rfl (by decide +kernel))) <|
  zA_c (zOk_fl zn_ald (zs_iald (by decide +kernel))) <|
  zA_c (zOk_fl zn_aload (zs_aload_n (q := 0) rfl (by decide +kernel))) <|
  zA_c (zOk_fl zn_getR (zs_getR (k := 0) rfl (by decide) (by decide +kernel) rfl (by decide +kernel) zw_1179)) <|
  zA_c (zOk_fl zn_iload (zs_iload_n (q := 3) rfl (by decide +kernel))) <|
  zA_c (zOk_fl zn_ald (zs_iald (by decide +kernel))) <|
  zA_c (zOk_fl zn_iceq (zs_iceq (off := 9) (by decide +kernel) (by decide))) <|
  zA_c (zOk_fl zn_aload (zs_aload_n (q := 0) rfl (by decide +kernel))) <|
  zA_c (zOk_fl zn_push (zs_iconst (n := 4) (by decide +kernel) rfl)) <|
  zA_c (zk_V zq_205 zw_1304 rfl (by decide +kernel)) <|
  zA_c (zs_iret (by decide +kernel) rfl) <|
  zA_c (zOk_fl zn_iload (zs_iload_n (q := 2) rfl (by decide +kernel))) <|
  zA_c (zOk_fl zn_iflt (zs_iflt (off := 48) (by decide +kernel) (by decide))) <|
  zA_n
def zcl_211_2 : List (Nat × zmI) := [(66, zm_iload 68 4), (68, zm_iflt 71 111), (71, zm_iload 73 5), (73, zm_iflt 76 111), (76, zm_iload 77 2), (77, zm_i2l 78), (78, zm_iload 80 5), (80, zm_i2l 81), (81, zm_binl 82 (fun x y => w64 (x + y))), (82, zm_aload 83 0), (83, zm_getR 86 12 1), (86, zm_iload 87 1), (87, zm_ald 88 100), (88, zm_i2l 89), (89, zm_lcmp 90), (90, zm_ifgt 93 111), (93, zm_iload 95 4), (95, zm_i2l 96)]
theorem zmc_211_2 (l : Launch) : zAll l "ChessWireModel" prog_14_method_15_code 7 false (some .int) zcl_211_2 :=
  zA_c (zOk_fl zn_iload (zs_iload (by decide +kernel))) <|
  zA_c (zOk_fl zn_iflt (zs_iflt (off := 43) (by decide +kernel) (by decide))) <|
  zA_c (zOk_fl zn_iload (zs_iload (by decide +kernel))) <|
  zA_c (zOk_fl zn_iflt (zs_iflt (off := 38) (by decide +kernel) (by decide))) <|
  zA_c (zOk_fl zn_iload (zs_iload_n (q := 2) rfl (by decide +kernel))) <|
  zA_c (zOk_fl zn_i2l (zs_i2l (by decide +kernel))) <|
  zA_c (zOk_fl zn_iload (zs_iload (by decide +kernel))) <|
  zA_c (zOk_fl zn_i2l (zs_i2l (by decide +kernel))) <|
  zA_c (zOk_fl zn_binl (zs_ladd (by decide +kernel))) <|
  zA_c (zOk_fl zn_aload (zs_aload_n (q := 0) rfl (by decide +kernel))) <|
  zA_c (zOk_fl zn_getR (zs_getR (k := 1) rfl (by decide) (by decide +kernel) rfl (by decide +kernel) zw_1180)) <|
  zA_c (zOk_fl zn_iload (zs_iload_n (q := 1) rfl (by decide +kernel))) <|
  zA_c (zOk_fl zn_ald (zs_iald (by decide +kernel))) <|
  zA_c (zOk_fl zn_i2l (zs_i2l (by decide +kernel))) <|
  zA_c (zOk_fl zn_lcmp (zs_lcmp (by decide +kernel))) <|
  zA_c (zOk_fl zn_ifgt (zs_ifgt (off := 21) (by decide +kernel) (by decide))) <|
  zA_c (zOk_fl zn_iload (zs_iload (by decide +kernel))) <|
  zA_c (zOk_fl zn_i2l (zs_i2l (by decide +kernel))) <|
  zA_n
def zcl_211_3 : List (Nat × zmI) := [(96, zm_iload 98 5), (98, zm_i2l 99), (99, zm_binl 100 (fun x y => w64 (x + y))), (100, zm_aload 101 0), (101, zm_getR 104 12 1), (104, zm_iload 105 3), (105, zm_ald 106 100), (106, zm_i2l 107), (107, zm_lcmp 108), (108, zm_ifle 111 117), (111, zm_aload 112 0), (112, zm_push 113 2), (113, zm_call 116 205 2 true 12), (116, zm_iret), (117, zm_push 118 0), (118, zm_istore 120 6), (120, zm_iload 122 6), (122, zm_iload 124 5), (124, zm_icge 127 154), (127, zm_aload 128 0)]
theorem zmc_211_3 (l : Launch) : zAll l "ChessWireModel" prog_14_method_15_code 7 false (some .int) zcl_211_3 :=
  zA_c (zOk_fl zn_iload (zs_iload (by decide +kernel))) <|
  zA_c (zOk_fl zn_i2l (zs_i2l (by decide +kernel))) <|
  zA_c (zOk_fl zn_binl (zs_ladd (by decide +kernel))) <|
  zA_c (zOk_fl zn_aload (zs_aload_n (q := 0) rfl (by decide +kernel))) <|
  zA_c (zOk_fl zn_getR (zs_getR (k := 1) rfl (by decide) (by decide +kernel) rfl (by decide +kernel) zw_1180)) <|
  zA_c (zOk_fl zn_iload (zs_iload_n (q := 3) rfl (by decide +kernel))) <|
  zA_c (zOk_fl zn_ald (zs_iald (by decide +kernel))) <|
  zA_c (zOk_fl zn_i2l (zs_i2l (by decide +kernel))) <|
  zA_c (zOk_fl zn_lcmp (zs_lcmp (by decide +kernel))) <|
  zA_c (zOk_fl zn_ifle (zs_ifle (off := 9) (by decide +kernel) (by decide))) <|
  zA_c (zOk_fl zn_aload (zs_aload_n (q := 0) rfl (by decide +kernel))) <|
  zA_c (zOk_fl zn_push (zs_iconst (n := 2) (by decide +kernel) rfl)) <|
  zA_c (zk_V zq_205 zw_1304 rfl (by decide +kernel)) <|
  zA_c (zs_iret (by decide +kernel) rfl) <|
  zA_c (zOk_fl zn_push (zs_iconst (n := 0) (by decide +kernel) rfl)) <|
  zA_c (zOk_fl zn_istore (zs_istore (by decide +kernel))) <|
  zA_c (zOk_fl zn_iload (zs_iload (by decide +kernel))) <|
  zA_c (zOk_fl zn_iload (zs_iload (by decide +kernel))) <|
  zA_c (zOk_fl zn_icge (zs_icge (off := 30) (by decide +kernel) (by decide))) <|
  zA_c (zOk_fl zn_aload (zs_aload_n (q := 0) rfl (by decide +kernel))) <|
  zA_n
def zcl_211_4 : List (Nat × zmI) := [(128, zm_getR 131 12 3), (131, zm_iload 133 6), (133, zm_aload 134 0), (134, zm_getR 137 12 2), (137, zm_push 139 60), (139, zm_iload 140 1), (140, zm_bin 141 (fun x y => w32 (x * y))), (141, zm_iload 142 2), (142, zm_bin 143 (fun x y => w32 (x + y))), (143, zm_iload 145 6), (145, zm_bin 146 (fun x y => w32 (x + y))), (146, zm_ald 147 100), (147, zm_iast 148), (148, zm_iinc 151 6 1), (151, zm_goto 120), (154, zm_push 155 0), (155, zm_istore 157 6), (157, zm_iload 159 6), (159, zm_iload 161 5)]
theorem zmc_211_4 (l : Launch) : zAll l "ChessWireModel" prog_14_method_15_code 7 false (some .int) zcl_211_4 :=
  zA_c (zOk_fl zn_getR (zs_getR (k := 3) rfl (by decide) (by decide +kernel) rfl (by decide +kernel) zw_1182)) <|
  zA_c (zOk_fl zn_iload (zs_iload (by decide +kernel))) <|
  zA_c (zOk_fl zn_aload (zs_aload_n (q := 0) rfl (by decide +kernel))) <|
  zA_c (zOk_fl zn_getR (zs_getR (k := 2) rfl (by decide) (by decide +kernel) rfl (by decide +kernel) zw_1181)) <|
  zA_c (zOk_fl zn_push (zs_bipush (n := 60) (by decide +kernel) rfl)) <|
  zA_c (zOk_fl zn_iload (zs_iload_n (q := 1) rfl (by decide +kernel))) <|
  zA_c (zOk_fl zn_bin (zs_imul (by decide +kernel))) <|
  zA_c (zOk_fl zn_iload (zs_iload_n (q := 2) rfl (by decide +kernel))) <|
  zA_c (zOk_fl zn_bin (zs_iadd (by decide +kernel))) <|
  zA_c (zOk_fl zn_iload (zs_iload (by decide +kernel))) <|
  zA_c (zOk_fl zn_bin (zs_iadd (by decide +kernel))) <|
  zA_c (zOk_fl zn_ald (zs_iald (by decide +kernel))) <|
  zA_c (zOk_sn zn_iast (zs_iast (by decide +kernel))) <|
  zA_c (zOk_fl zn_iinc (zs_iinc rfl (by decide +kernel))) <|
  zA_c (zOk_fl zn_goto (zs_goto (off := (-31)) (by decide +kernel) (by decide))) <|
  zA_c (zOk_fl zn_push (zs_iconst (n := 0) (by decide +kernel) rfl)) <|
  zA_c (zOk_fl zn_istore (zs_istore (by decide +kernel))) <|
  zA_c (zOk_fl zn_iload (zs_iload (by decide +kernel))) <|
  zA_c (zOk_fl zn_iload (zs_iload (by decide +kernel))) <|
  zA_n
def zcl_211_5 : List (Nat × zmI) := [(161, zm_icge 164 192), (164, zm_aload 165 0), (165, zm_getR 168 12 2), (168, zm_push 170 60), (170, zm_iload 171 3), (171, zm_bin 172 (fun x y => w32 (x * y))), (172, zm_iload 174 4), (174, zm_bin 175 (fun x y => w32 (x + y))), (175, zm_iload 177 6), (177, zm_bin 178 (fun x y => w32 (x + y))), (178, zm_aload 179 0), (179, zm_getR 182 12 3), (182, zm_iload 184 6), (184, zm_ald 185 100), (185, zm_iast 186), (186, zm_iinc 189 6 1), (189, zm_goto 157)]
theorem zmc_211_5 (l : Launch) : zAll l "ChessWireModel" prog_14_method_15_code 7 false (some .int) zcl_211_5 :=
  zA_c (zOk_fl zn_icge (zs_icge (off := 31) (by decide +kernel) (by decide))) <|
  zA_c (zOk_fl zn_aload (zs_aload_n (q := 0) rfl (by decide +kernel))) <|
  zA_c (zOk_fl zn_getR (zs_getR (k := 2) rfl (by decide) (by decide +kernel) rfl (by decide +kernel) zw_1181)) <|
  zA_c (zOk_fl zn_push (zs_bipush (n := 60) (by decide +kernel) rfl)) <|
  zA_c (zOk_fl zn_iload (zs_iload_n (q := 3) rfl (by decide +kernel))) <|
  zA_c (zOk_fl zn_bin (zs_imul (by decide +kernel))) <|
  zA_c (zOk_fl zn_iload (zs_iload (by decide +kernel))) <|
  zA_c (zOk_fl zn_bin (zs_iadd (by decide +kernel))) <|
  zA_c (zOk_fl zn_iload (zs_iload (by decide +kernel))) <|
  zA_c (zOk_fl zn_bin (zs_iadd (by decide +kernel))) <|
  zA_c (zOk_fl zn_aload (zs_aload_n (q := 0) rfl (by decide +kernel))) <|
  zA_c (zOk_fl zn_getR (zs_getR (k := 3) rfl (by decide) (by decide +kernel) rfl (by decide +kernel) zw_1182)) <|
  zA_c (zOk_fl zn_iload (zs_iload (by decide +kernel))) <|
  zA_c (zOk_fl zn_ald (zs_iald (by decide +kernel))) <|
  zA_c (zOk_sn zn_iast (zs_iast (by decide +kernel))) <|
  zA_c (zOk_fl zn_iinc (zs_iinc rfl (by decide +kernel))) <|
  zA_c (zOk_fl zn_goto (zs_goto (off := (-32)) (by decide +kernel) (by decide))) <|
  zA_n
def zcl_211_6 : List (Nat × zmI) := [(192, zm_push 193 1), (193, zm_iret)]
theorem zmc_211_6 (l : Launch) : zAll l "ChessWireModel" prog_14_method_15_code 7 false (some .int) zcl_211_6 :=
  zA_c (zOk_fl zn_push (zs_iconst (n := 1) (by decide +kernel) rfl)) <|
  zA_c (zs_iret (by decide +kernel) rfl) <|
  zA_n
def zc_211 : Nat → zmI := zgetC [zcl_211_0, zcl_211_1, zcl_211_2, zcl_211_3, zcl_211_4, zcl_211_5, zcl_211_6]
theorem zmf_211 (l : Launch) : zMf l zc_211 211 := ⟨by decide +kernel, false, (fun h => by cases h), fun pc => zgetC_ok (zA2_c (zmc_211_0 l) (zA2_c (zmc_211_1 l) (zA2_c (zmc_211_2 l) (zA2_c (zmc_211_3 l) (zA2_c (zmc_211_4 l) (zA2_c (zmc_211_5 l) (zA2_c (zmc_211_6 l) (zA2_n)))))))) pc⟩
def zcl_212_0 : List (Nat × zmI) := [(0, zm_iload 1 1), (1, zm_call 4 213 1 true 99), (4, zm_ifeq 7 19), (7, zm_iload 8 2), (8, zm_i2l 9), (9, zm_pushl 10 0), (10, zm_pushl 13 255), (13, zm_call 16 201 3 true 99), (16, zm_ifne 19 22), (19, zm_push 21 (-2)), (21, zm_iret), (22, zm_aload 23 0), (23, zm_getR 26 12 6), (26, zm_iload 27 1), (27, zm_ald 28 100), (28, zm_iload 29 1), (29, zm_ifne 32 37)]
theorem zmc_212_0 (l : Launch) : zAll l "ChessWireModel" prog_14_method_18_code 3 false (some .int) zcl_212_0 :=
  zA_c (zOk_fl zn_iload (zs_iload_n (q := 1) rfl (by decide +kernel))) <|
  zA_c (zk_S zq_213 zw_1336 (by decide +kernel)) <|
  zA_c (zOk_fl zn_ifeq (zs_ifeq (off := 15) (by decide +kernel) (by decide))) <|
  zA_c (zOk_fl zn_iload (zs_iload_n (q := 2) rfl (by decide +kernel))) <|
  zA_c (zOk_fl zn_i2l (zs_i2l (by decide +kernel))) <|
  zA_c (zOk_fl zn_pushl (zs_lconst (n := 0) (by decide +kernel) rfl)) <|
  zA_c (zOk_fl zn_pushl (zs_ldc2 (by decide +kernel) zw_1339 rfl)) <|
  zA_c (zk_S zq_201 zw_1172 (by decide +kernel)) <|
  zA_c (zOk_fl zn_ifne (zs_ifne (off := 6) (by decide +kernel) (by decide))) <|
  zA_c (zOk_fl zn_push (zs_bipush (n := (-2)) (by decide +kernel) rfl)) <|
  zA_c (zs_iret (by decide +kernel) rfl) <|
  zA_c (zOk_fl zn_aload (zs_aload_n (q := 0) rfl (by decide +kernel))) <|
  zA_c (zOk_fl zn_getR (zs_getR (k := 6) rfl (by decide) (by decide +kernel) rfl (by decide +kernel) zw_1185)) <|
  zA_c (zOk_fl zn_iload (zs_iload_n (q := 1) rfl (by decide +kernel))) <|
  zA_c (zOk_fl zn_ald (zs_iald (by decide +kernel))) <|
  zA_c (zOk_fl zn_iload (zs_iload_n (q := 1) rfl (by decide +kernel))) <|
  zA_c (zOk_fl zn_ifne (zs_ifne (off := 8) (by decide +kernel) (by decide))) <|
  zA_n
def zcl_212_1 : List (Nat × zmI) := [(32, zm_push 34 80), (34, zm_goto 49), (37, zm_iload 38 1), (38, zm_push 39 1), (39, zm_icne 42 47), (42, zm_push 44 10), (44, zm_goto 49), (47, zm_push 49 60), (49, zm_icne 52 55), (52, zm_push 54 (-4)), (54, zm_iret), (55, zm_aload 56 0), (56, zm_getR 59 12 5), (59, zm_iload 60 1), (60, zm_call 63 198 1 true 99), (63, zm_aload 64 0)]
theorem zmc_212_1 (l : Launch) : zAll l "ChessWireModel" prog_14_method_18_code 3 false (some .int) zcl_212_1 :=
  zA_c (zOk_fl zn_push (zs_bipush (n := 80) (by decide +kernel) rfl)) <|
  zA_c (zOk_fl zn_goto (zs_goto (off := 15) (by decide +kernel) (by decide))) <|
  zA_c (zOk_fl zn_iload (zs_iload_n (q := 1) rfl (by decide +kernel))) <|
  zA_c (zOk_fl zn_push (zs_iconst (n := 1) (by decide +kernel) rfl)) <|
  zA_c (zOk_fl zn_icne (zs_icne (off := 8) (by decide +kernel) (by decide))) <|
  zA_c (zOk_fl zn_push (zs_bipush (n := 10) (by decide +kernel) rfl)) <|
  zA_c (zOk_fl zn_goto (zs_goto (off := 5) (by decide +kernel) (by decide))) <|
  zA_c (zOk_fl zn_push (zs_bipush (n := 60) (by decide +kernel) rfl)) <|
  zA_c (zOk_fl zn_icne (zs_icne (off := 6) (by decide +kernel) (by decide))) <|
  zA_c (zOk_fl zn_push (zs_bipush (n := (-4)) (by decide +kernel) rfl)) <|
  zA_c (zs_iret (by decide +kernel) rfl) <|
  zA_c (zOk_fl zn_aload (zs_aload_n (q := 0) rfl (by decide +kernel))) <|
  zA_c (zOk_fl zn_getR (zs_getR (k := 5) rfl (by decide) (by decide +kernel) rfl (by decide +kernel) zw_1184)) <|
  zA_c (zOk_fl zn_iload (zs_iload_n (q := 1) rfl (by decide +kernel))) <|
  zA_c (zk_S zq_198 zw_1160 (by decide +kernel)) <|
  zA_c (zOk_fl zn_aload (zs_aload_n (q := 0) rfl (by decide +kernel))) <|
  zA_n
def zcl_212_2 : List (Nat × zmI) := [(64, zm_getR 67 12 6), (67, zm_iload 68 1), (68, zm_ald 69 100), (69, zm_bin 70 (fun x y => w32 (x + y))), (70, zm_iload 71 2), (71, zm_iast 72), (72, zm_aload 73 0), (73, zm_getR 76 12 6), (76, zm_iload 77 1), (77, zm_dup2 78), (78, zm_ald 79 100), (79, zm_push 80 1), (80, zm_bin 81 (fun x y => w32 (x + y))), (81, zm_iast 82), (82, zm_iload 83 1), (83, zm_ifne 86 91), (86, zm_aload 87 0), (87, zm_call 90 194 1 true 12), (90, zm_pop 91), (91, zm_aload 92 0), (92, zm_getR 95 12 6), (95, zm_iload 96 1)]
theorem zmc_212_2 (l : Launch) : zAll l "ChessWireModel" prog_14_method_18_code 3 false (some .int) zcl_212_2 :=
  zA_c (zOk_fl zn_getR (zs_getR (k := 6) rfl (by decide) (by decide +kernel) rfl (by decide +kernel) zw_1185)) <|
  zA_c (zOk_fl zn_iload (zs_iload_n (q := 1) rfl (by decide +kernel))) <|
  zA_c (zOk_fl zn_ald (zs_iald (by decide +kernel))) <|
  zA_c (zOk_fl zn_bin (zs_iadd (by decide +kernel))) <|
  zA_c (zOk_fl zn_iload (zs_iload_n (q := 2) rfl (by decide +kernel))) <|
  zA_c (zOk_sn zn_iast (zs_iast (by decide +kernel))) <|
  zA_c (zOk_fl zn_aload (zs_aload_n (q := 0) rfl (by decide +kernel))) <|
  zA_c (zOk_fl zn_getR (zs_getR (k := 6) rfl (by decide) (by decide +kernel) rfl (by decide +kernel) zw_1185)) <|
  zA_c (zOk_fl zn_iload (zs_iload_n (q := 1) rfl (by decide +kernel))) <|
  zA_c (zOk_fl zn_dup2 (zs_dup2 (by decide +kernel))) <|
  zA_c (zOk_fl zn_ald (zs_iald (by decide +kernel))) <|
  zA_c (zOk_fl zn_push (zs_iconst (n := 1) (by decide +kernel) rfl)) <|
  zA_c (zOk_fl zn_bin (zs_iadd (by decide +kernel))) <|
  zA_c (zOk_sn zn_iast (zs_iast (by decide +kernel))) <|
  zA_c (zOk_fl zn_iload (zs_iload_n (q := 1) rfl (by decide +kernel))) <|
  zA_c (zOk_fl zn_ifne (zs_ifne (off := 8) (by decide +kernel) (by decide))) <|
  zA_c (zOk_fl zn_aload (zs_aload_n (q := 0) rfl (by decide +kernel))) <|
  zA_c (zk_V zq_194 zw_1144 rfl (by decide +kernel)) <|
  zA_c (zOk_fl zn_pop (zs_pop (by decide +kernel))) <|
  zA_c (zOk_fl zn_aload (zs_aload_n (q := 0) rfl (by decide +kernel))) <|
  zA_c (zOk_fl zn_getR (zs_getR (k := 6) rfl (by decide) (by decide +kernel) rfl (by decide +kernel) zw_1185)) <|
  zA_c (zOk_fl zn_iload (zs_iload_n (q := 1) rfl (by decide +kernel))) <|
  zA_n
def zcl_212_3 : List (Nat × zmI) := [(96, zm_ald 97 100), (97, zm_iret)]
theorem zmc_212_3 (l : Launch) : zAll l "ChessWireModel" prog_14_method_18_code 3 false (some .int) zcl_212_3 :=
  zA_c (zOk_fl zn_ald (zs_iald (by decide +kernel))) <|
  zA_c (zs_iret (by decide +kernel) rfl) <|
  zA_n
def zc_212 : Nat → zmI := zgetC [zcl_212_0, zcl_212_1, zcl_212_2, zcl_212_3]
theorem zmf_212 (l : Launch) : zMf l zc_212 212 := ⟨by decide +kernel, false, (fun h => by cases h), fun pc => zgetC_ok (zA2_c (zmc_212_0 l) (zA2_c (zmc_212_1 l) (zA2_c (zmc_212_2 l) (zA2_c (zmc_212_3 l) (zA2_n))))) pc⟩
def zcl_213_0 : List (Nat × zmI) := [(0, zm_iload 1 0), (1, zm_i2l 2), (2, zm_pushl 3 0), (3, zm_pushl 6 2), (6, zm_call 9 201 3 true 99), (9, zm_zret)]
theorem zmc_213_0 (l : Launch) : zAll l "ChessWireModel" prog_14_method_16_code 1 false (some .boolean) zcl_213_0 :=
  zA_c (zOk_fl zn_iload (zs_iload_n (q := 0) rfl (by decide +kernel))) <|
  zA_c (zOk_fl zn_i2l (zs_i2l (by decide +kernel))) <|
  zA_c (zOk_fl zn_pushl (zs_lconst (n := 0) (by decide +kernel) rfl)) <|
  zA_c (zOk_fl zn_pushl (zs_ldc2 (by decide +kernel) zw_1303 rfl)) <|
  zA_c (zk_S zq_201 zw_1172 (by decide +kernel)) <|
  zA_c (zs_zret (by decide +kernel) rfl) <|
  zA_n
def zc_213 : Nat → zmI := zgetC [zcl_213_0]
theorem zmf_213 (l : Launch) : zMf l zc_213 213 := ⟨by decide +kernel, false, (fun h => by cases h), fun pc => zgetC_ok (zA2_c (zmc_213_0 l) (zA2_n)) pc⟩
def zcl_214_0 : List (Nat × zmI) := [(0, zm_iload 1 1), (1, zm_call 4 213 1 true 99), (4, zm_ifne 7 10), (7, zm_push 9 (-2)), (9, zm_iret), (10, zm_aload 11 0), (11, zm_getR 14 12 6), (14, zm_iload 15 1), (15, zm_ald 16 100), (16, zm_istore 17 2), (17, zm_aload 18 0), (18, zm_getR 21 12 6), (21, zm_iload 22 1), (22, zm_push 23 0), (23, zm_iast 24), (24, zm_iload 25 1), (25, zm_ifne 28 33), (28, zm_aload 29 0), (29, zm_call 32 194 1 true 12)]
theorem zmc_214_0 (l : Launch) : zAll l "ChessWireModel" prog_14_method_19_code 3 false (some .int) zcl_214_0 :=
  zA_c (zOk_fl zn_iload (zs_iload_n (q := 1) rfl (by decide +kernel))) <|
  zA_c (zk_S zq_213 zw_1336 (by decide +kernel)) <|
  zA_c (zOk_fl zn_ifne (zs_ifne (off := 6) (by decide +kernel) (by decide))) <|
  zA_c (zOk_fl zn_push (zs_bipush (n := (-2)) (by decide +kernel) rfl)) <|
  zA_c (zs_iret (by decide +kernel) rfl) <|
  zA_c (zOk_fl zn_aload (zs_aload_n (q := 0) rfl (by decide +kernel))) <|
  zA_c (zOk_fl zn_getR (zs_getR (k := 6) rfl (by decide) (by decide +kernel) rfl (by decide +kernel) zw_1185)) <|
  zA_c (zOk_fl zn_iload (zs_iload_n (q := 1) rfl (by decide +kernel))) <|
  zA_c (zOk_fl zn_ald (zs_iald (by decide +kernel))) <|
  zA_c (zOk_fl zn_istore (zs_istore_n (q := 2) rfl (by decide +kernel))) <|
  zA_c (zOk_fl zn_aload (zs_aload_n (q := 0) rfl (by decide +kernel))) <|
  zA_c (zOk_fl zn_getR (zs_getR (k := 6) rfl (by decide) (by decide +kernel) rfl (by decide +kernel) zw_1185)) <|
  zA_c (zOk_fl zn_iload (zs_iload_n (q := 1) rfl (by decide +kernel))) <|
  zA_c (zOk_fl zn_push (zs_iconst (n := 0) (by decide +kernel) rfl)) <|
  zA_c (zOk_sn zn_iast (zs_iast (by decide +kernel))) <|
  zA_c (zOk_fl zn_iload (zs_iload_n (q := 1) rfl (by decide +kernel))) <|
  zA_c (zOk_fl zn_ifne (zs_ifne (off := 8) (by decide +kernel) (by decide))) <|
  zA_c (zOk_fl zn_aload (zs_aload_n (q := 0) rfl (by decide +kernel))) <|
  zA_c (zk_V zq_194 zw_1144 rfl (by decide +kernel)) <|
  zA_n
def zcl_214_1 : List (Nat × zmI) := [(32, zm_pop 33), (33, zm_iload 34 2), (34, zm_iret)]
theorem zmc_214_1 (l : Launch) : zAll l "ChessWireModel" prog_14_method_19_code 3 false (some .int) zcl_214_1 :=
  zA_c (zOk_fl zn_pop (zs_pop (by decide +kernel))) <|
  zA_c (zOk_fl zn_iload (zs_iload_n (q := 2) rfl (by decide +kernel))) <|
  zA_c (zs_iret (by decide +kernel) rfl) <|
  zA_n
def zc_214 : Nat → zmI := zgetC [zcl_214_0, zcl_214_1]
theorem zmf_214 (l : Launch) : zMf l zc_214 214 := ⟨by decide +kernel, false, (fun h => by cases h), fun pc => zgetC_ok (zA2_c (zmc_214_0 l) (zA2_c (zmc_214_1 l) (zA2_n))) pc⟩
def zcl_215_0 : List (Nat × zmI) := [(0, zm_iload 1 1), (1, zm_call 4 213 1 true 99), (4, zm_ifeq 7 15), (7, zm_aload 8 0), (8, zm_iload 9 1), (9, zm_call 12 216 2 true 12), (12, zm_goto 17), (15, zm_push 17 (-2)), (17, zm_iret)]
theorem zmc_215_0 (l : Launch) : zAll l "ChessWireModel" prog_14_method_31_code 2 false (some .int) zcl_215_0 :=
  zA_c (zOk_fl zn_iload (zs_iload_n (q := 1) rfl (by decide +kernel))) <|
  zA_c (zk_S zq_213 zw_1336 (by decide +kernel)) <|
  zA_c (zOk_fl zn_ifeq (zs_ifeq (off := 11) (by decide +kernel) (by decide))) <|
  zA_c (zOk_fl zn_aload (zs_aload_n (q := 0) rfl (by decide +kernel))) <|
  zA_c (zOk_fl zn_iload (zs_iload_n (q := 1) rfl (by decide +kernel))) <|
  zA_c (zk_V zq_216 zw_1348 rfl (by decide +kernel)) <|
  zA_c (zOk_fl zn_goto (zs_goto (off := 5) (by decide +kernel) (by decide))) <|
  zA_c (zOk_fl zn_push (zs_bipush (n := (-2)) (by decide +kernel) rfl)) <|
  zA_c (zs_iret (by decide +kernel) rfl) <|
  zA_n
def zc_215 : Nat → zmI := zgetC [zcl_215_0]
theorem zmf_215 (l : Launch) : zMf l zc_215 215 := ⟨by decide +kernel, false, (fun h => by cases h), fun pc => zgetC_ok (zA2_c (zmc_215_0 l) (zA2_n)) pc⟩
def zcl_216_0 : List (Nat × zmI) := [(0, zm_iload 1 1), (1, zm_ifne 4 11), (4, zm_aload 5 0), (5, zm_call 8 217 1 true 12), (8, zm_goto 27), (11, zm_iload 12 1), (12, zm_push 13 1), (13, zm_icne 16 23), (16, zm_aload 17 0), (17, zm_call 20 218 1 true 12), (20, zm_goto 27), (23, zm_aload 24 0), (24, zm_call 27 223 1 true 12), (27, zm_iret)]
theorem zmc_216_0 (l : Launch) : zAll l "ChessWireModel" prog_14_method_30_code 2 false (some .int) zcl_216_0 :=
  zA_c (zOk_fl zn_iload (zs_iload_n (q := 1) rfl (by decide +kernel))) <|
  zA_c (zOk_fl zn_ifne (zs_ifne (off := 10) (by decide +kernel) (by decide))) <|
  zA_c (zOk_fl zn_aload (zs_aload_n (q := 0) rfl (by decide +kernel))) <|
  zA_c (zk_V zq_217 zw_1352 rfl (by decide +kernel)) <|
  zA_c (zOk_fl zn_goto (zs_goto (off := 19) (by decide +kernel) (by decide))) <|
  zA_c (zOk_fl zn_iload (zs_iload_n (q := 1) rfl (by decide +kernel))) <|
  zA_c (zOk_fl zn_push (zs_iconst (n := 1) (by decide +kernel) rfl)) <|
  zA_c (zOk_fl zn_icne (zs_icne (off := 10) (by decide +kernel) (by decide))) <|
  zA_c (zOk_fl zn_aload (zs_aload_n (q := 0) rfl (by decide +kernel))) <|
  zA_c (zk_V zq_218 zw_1356 rfl (by decide +kernel)) <|
  zA_c (zOk_fl zn_goto (zs_goto (off := 7) (by decide +kernel) (by decide))) <|
  zA_c (zOk_fl zn_aload (zs_aload_n (q := 0) rfl (by decide +kernel))) <|
  zA_c (zk_V zq_223 zw_1377 rfl (by decide +kernel)) <|
  zA_c (zs_iret (by decide +kernel) rfl) <|
  zA_n
def zc_216 : Nat → zmI := zgetC [zcl_216_0]
theorem zmf_216 (l : Launch) : zMf l zc_216 216 := ⟨by decide +kernel, false, (fun h => by cases h), fun pc => zgetC_ok (zA2_c (zmc_216_0 l) (zA2_n)) pc⟩
def zcl_217_0 : List (Nat × zmI) := [(0, zm_push 1 0), (1, zm_istore 2 1), (2, zm_iload 3 1), (3, zm_push 5 64), (5, zm_icge 8 30), (8, zm_aload 9 0), (9, zm_getR 12 12 8), (12, zm_push 15 192), (15, zm_iload 16 1), (16, zm_bin 17 (fun x y => w32 (x + y))), (17, zm_aload 18 0), (18, zm_getR 21 12 8), (21, zm_iload 22 1), (22, zm_ald 23 100), (23, zm_iast 24), (24, zm_iinc 27 1 1), (27, zm_goto 2), (30, zm_aload 31 0), (31, zm_getR 34 12 9)]
theorem zmc_217_0 (l : Launch) : zAll l "ChessWireModel" prog_14_method_29_code 4 false (some .int) zcl_217_0 :=
  zA_c (zOk_fl zn_push (zs_iconst (n := 0) (by decide +kernel) rfl)) <|
  zA_c (zOk_fl zn_istore (zs_istore_n (q := 1) rfl (by decide +kernel))) <|
  zA_c (zOk_fl zn_iload (zs_iload_n (q := 1) rfl (by decide +kernel))) <|
  zA_c (zOk_fl zn_push (zs_bipush (n := 64) (by decide +kernel) rfl)) <|
  zA_c (zOk_fl zn_icge (zs_icge (off := 25) (by decide +kernel) (by decide))) <|
  zA_c (zOk_fl zn_aload (zs_aload_n (q := 0) rfl (by decide +kernel))) <|
  zA_c (zOk_fl zn_getR (zs_getR (k := 8) rfl (by decide) (by decide +kernel) rfl (by decide +kernel) zw_1187)) <|
  zA_c (zOk_fl zn_push (zs_sipush (n := 192) (by decide +kernel) rfl)) <|
  zA_c (zOk_fl zn_iload (zs_iload_n (q := 1) rfl (by decide +kernel))) <|
  zA_c (zOk_fl zn_bin (zs_iadd (by decide +kernel))) <|
  zA_c (zOk_fl zn_aload (zs_aload_n (q := 0) rfl (by decide +kernel))) <|
  zA_c (zOk_fl zn_getR (zs_getR (k := 8) rfl (by decide) (by decide +kernel) rfl (by decide +kernel) zw_1187)) <|
  zA_c (zOk_fl zn_iload (zs_iload_n (q := 1) rfl (by decide +kernel))) <|
  zA_c (zOk_fl zn_ald (zs_iald (by decide +kernel))) <|
  zA_c (zOk_sn zn_iast (zs_iast (by decide +kernel))) <|
  zA_c (zOk_fl zn_iinc (zs_iinc rfl (by decide +kernel))) <|
  zA_c (zOk_fl zn_goto (zs_goto (off := (-25)) (by decide +kernel) (by decide))) <|
  zA_c (zOk_fl zn_aload (zs_aload_n (q := 0) rfl (by decide +kernel))) <|
  zA_c (zOk_fl zn_getR (zs_getR (k := 9) rfl (by decide) (by decide +kernel) rfl (by decide +kernel) zw_1188)) <|
  zA_n
def zcl_217_1 : List (Nat × zmI) := [(34, zm_push 35 0), (35, zm_ald 36 100), (36, zm_istore 37 1), (37, zm_aload 38 0), (38, zm_call 41 195 1 true 12), (41, zm_istore 42 2), (42, zm_push 43 0), (43, zm_istore 44 3), (44, zm_iload 45 3), (45, zm_push 47 64), (47, zm_icge 50 72), (50, zm_aload 51 0), (51, zm_getR 54 12 8), (54, zm_iload 55 3), (55, zm_aload 56 0), (56, zm_getR 59 12 8), (59, zm_push 62 192), (62, zm_iload 63 3), (63, zm_bin 64 (fun x y => w32 (x + y)))]
theorem zmc_217_1 (l : Launch) : zAll l "ChessWireModel" prog_14_method_29_code 4 false (some .int) zcl_217_1 :=
  zA_c (zOk_fl zn_push (zs_iconst (n := 0) (by decide +kernel) rfl)) <|
  zA_c (zOk_fl zn_ald (zs_iald (by decide +kernel))) <|
  zA_c (zOk_fl zn_istore (zs_istore_n (q := 1) rfl (by decide +kernel))) <|
  zA_c (zOk_fl zn_aload (zs_aload_n (q := 0) rfl (by decide +kernel))) <|
  zA_c (zk_V zq_195 zw_1148 rfl (by decide +kernel)) <|
  zA_c (zOk_fl zn_istore (zs_istore_n (q := 2) rfl (by decide +kernel))) <|
  zA_c (zOk_fl zn_push (zs_iconst (n := 0) (by decide +kernel) rfl)) <|
  zA_c (zOk_fl zn_istore (zs_istore_n (q := 3) rfl (by decide +kernel))) <|
  zA_c (zOk_fl zn_iload (zs_iload_n (q := 3) rfl (by decide +kernel))) <|
  zA_c (zOk_fl zn_push (zs_bipush (n := 64) (by decide +kernel) rfl)) <|
  zA_c (zOk_fl zn_icge (zs_icge (off := 25) (by decide +kernel) (by decide))) <|
  zA_c (zOk_fl zn_aload (zs_aload_n (q := 0) rfl (by decide +kernel))) <|
  zA_c (zOk_fl zn_getR (zs_getR (k := 8) rfl (by decide) (by decide +kernel) rfl (by decide +kernel) zw_1187)) <|
  zA_c (zOk_fl zn_iload (zs_iload_n (q := 3) rfl (by decide +kernel))) <|
  zA_c (zOk_fl zn_aload (zs_aload_n (q := 0) rfl (by decide +kernel))) <|
  zA_c (zOk_fl zn_getR (zs_getR (k := 8) rfl (by decide) (by decide +kernel) rfl (by decide +kernel) zw_1187)) <|
  zA_c (zOk_fl zn_push (zs_sipush (n := 192) (by decide +kernel) rfl)) <|
  zA_c (zOk_fl zn_iload (zs_iload_n (q := 3) rfl (by decide +kernel))) <|
  zA_c (zOk_fl zn_bin (zs_iadd (by decide +kernel))) <|
  zA_n
def zcl_217_2 : List (Nat × zmI) := [(64, zm_ald 65 100), (65, zm_iast 66), (66, zm_iinc 69 3 1), (69, zm_goto 44), (72, zm_aload 73 0), (73, zm_getR 76 12 9), (76, zm_push 77 0), (77, zm_iload 78 1), (78, zm_iast 79), (79, zm_iload 80 2), (80, zm_iret)]
theorem zmc_217_2 (l : Launch) : zAll l "ChessWireModel" prog_14_method_29_code 4 false (some .int) zcl_217_2 :=
  zA_c (zOk_fl zn_ald (zs_iald (by decide +kernel))) <|
  zA_c (zOk_sn zn_iast (zs_iast (by decide +kernel))) <|
  zA_c (zOk_fl zn_iinc (zs_iinc rfl (by decide +kernel))) <|
  zA_c (zOk_fl zn_goto (zs_goto (off := (-25)) (by decide +kernel) (by decide))) <|
  zA_c (zOk_fl zn_aload (zs_aload_n (q := 0) rfl (by decide +kernel))) <|
  zA_c (zOk_fl zn_getR (zs_getR (k := 9) rfl (by decide) (by decide +kernel) rfl (by decide +kernel) zw_1188)) <|
  zA_c (zOk_fl zn_push (zs_iconst (n := 0) (by decide +kernel) rfl)) <|
  zA_c (zOk_fl zn_iload (zs_iload_n (q := 1) rfl (by decide +kernel))) <|
  zA_c (zOk_sn zn_iast (zs_iast (by decide +kernel))) <|
  zA_c (zOk_fl zn_iload (zs_iload_n (q := 2) rfl (by decide +kernel))) <|
  zA_c (zs_iret (by decide +kernel) rfl) <|
  zA_n
def zc_217 : Nat → zmI := zgetC [zcl_217_0, zcl_217_1, zcl_217_2]
theorem zmf_217 (l : Launch) : zMf l zc_217 217 := ⟨by decide +kernel, false, (fun h => by cases h), fun pc => zgetC_ok (zA2_c (zmc_217_0 l) (zA2_c (zmc_217_1 l) (zA2_c (zmc_217_2 l) (zA2_n)))) pc⟩
def zcl_218_0 : List (Nat × zmI) := [(0, zm_aload 1 0), (1, zm_push 2 1), (2, zm_push 3 0), (3, zm_aload 4 0), (4, zm_getR 7 12 6), (7, zm_push 8 1), (8, zm_ald 9 100), (9, zm_call 12 219 4 true 12), (12, zm_iret)]
theorem zmc_218_0 (l : Launch) : zAll l "ChessWireModel" prog_14_method_63_code 1 false (some .int) zcl_218_0 :=
  zA_c (zOk_fl zn_aload (zs_aload_n (q := 0) rfl (by decide +kernel))) <|
  zA_c (zOk_fl zn_push (zs_iconst (n := 1) (by decide +kernel) rfl)) <|
  zA_c (zOk_fl zn_push (zs_iconst (n := 0) (by decide +kernel) rfl)) <|
  zA_c (zOk_fl zn_aload (zs_aload_n (q := 0) rfl (by decide +kernel))) <|
  zA_c (zOk_fl zn_getR (zs_getR (k := 6) rfl (by decide) (by decide +kernel) rfl (by decide +kernel) zw_1185)) <|
  zA_c (zOk_fl zn_push (zs_iconst (n := 1) (by decide +kernel) rfl)) <|
  zA_c (zOk_fl zn_ald (zs_iald (by decide +kernel))) <|
  zA_c (zk_V zq_219 zw_1360 rfl (by decide +kernel)) <|
  zA_c (zs_iret (by decide +kernel) rfl) <|
  zA_n
def zc_218 : Nat → zmI := zgetC [zcl_218_0]
theorem zmf_218 (l : Launch) : zMf l zc_218 218 := ⟨by decide +kernel, false, (fun h => by cases h), fun pc => zgetC_ok (zA2_c (zmc_218_0 l) (zA2_n)) pc⟩
def zcl_219_0 : List (Nat × zmI) := [(0, zm_iload 1 2), (1, zm_istore 3 4), (3, zm_iload 5 4), (5, zm_iload 6 3), (6, zm_icge 9 22), (9, zm_aload 10 0), (10, zm_iload 11 1), (11, zm_iload 13 4), (13, zm_call 16 197 3 true 12), (16, zm_call 19 199 1 true 99), (19, zm_goto 23), (22, zm_push 23 0), (23, zm_istore 25 5), (25, zm_aload 26 0), (26, zm_push 27 (-1)), (27, zm_putI 30 12 13), (30, zm_iload 32 5)]
theorem zmc_219_0 (l : Launch) : zAll l "ChessWireModel" prog_14_method_61_code 11 false (some .int) zcl_219_0 :=
  zA_c (zOk_fl zn_iload (zs_iload_n (q := 2) rfl (by decide +kernel))) <|
  zA_c (zOk_fl zn_istore (zs_istore (by decide +kernel))) <|
  zA_c (zOk_fl zn_iload (zs_iload (by decide +kernel))) <|
  zA_c (zOk_fl zn_iload (zs_iload_n (q := 3) rfl (by decide +kernel))) <|
  zA_c (zOk_fl zn_icge (zs_icge (off := 16) (by decide +kernel) (by decide))) <|
  zA_c (zOk_fl zn_aload (zs_aload_n (q := 0) rfl (by decide +kernel))) <|
  zA_c (zOk_fl zn_iload (zs_iload_n (q := 1) rfl (by decide +kernel))) <|
  zA_c (zOk_fl zn_iload (zs_iload (by decide +kernel))) <|
  zA_c (zk_V zq_197 zw_1156 rfl (by decide +kernel)) <|
  zA_c (zk_S zq_199 zw_1163 (by decide +kernel)) <|
  zA_c (zOk_fl zn_goto (zs_goto (off := 4) (by decide +kernel) (by decide))) <|
  zA_c (zOk_fl zn_push (zs_iconst (n := 0) (by decide +kernel) rfl)) <|
  zA_c (zOk_fl zn_istore (zs_istore (by decide +kernel))) <|
  zA_c (zOk_fl zn_aload (zs_aload_n (q := 0) rfl (by decide +kernel))) <|
  zA_c (zOk_fl zn_push (zs_iconst (n := (-1)) (by decide +kernel) rfl)) <|
  zA_c (zOk_sn zn_putI (zs_putI (k := 13) rfl (by decide) (by decide +kernel) rfl rfl (by decide +kernel) zw_1192)) <|
  zA_c (zOk_fl zn_iload (zs_iload (by decide +kernel))) <|
  zA_n
def zcl_219_1 : List (Nat × zmI) := [(32, zm_i2l 33), (33, zm_pushl 34 1), (34, zm_pushl 37 6), (37, zm_call 40 201 3 true 99), (40, zm_ifeq 43 52), (43, zm_aload 44 0), (44, zm_iload 46 5), (46, zm_putI 49 12 13), (49, zm_iinc 52 4 1), (52, zm_iload 54 4), (54, zm_istore 56 6), (56, zm_push 57 0), (57, zm_istore 59 7), (59, zm_iload 61 4), (61, zm_iload 62 3), (62, zm_icge 65 222)]
theorem zmc_219_1 (l : Launch) : zAll l "ChessWireModel" prog_14_method_61_code 11 false (some .int) zcl_219_1 :=
  zA_c (zOk_fl zn_i2l (zs_i2l (by decide +kernel))) <|
  zA_c (zOk_fl zn_pushl (zs_lconst (n := 1) (by decide +kernel) rfl)) <|
  zA_c (zOk_fl zn_pushl (zs_ldc2 (by decide +kernel) zw_1364 rfl)) <|
  zA_c (zk_S zq_201 zw_1172 (by decide +kernel)) <|
  zA_c (zOk_fl zn_ifeq (zs_ifeq (off := 12) (by decide +kernel) (by decide))) <|
  zA_c (zOk_fl zn_aload (zs_aload_n (q := 0) rfl (by decide +kernel))) <|
  zA_c (zOk_fl zn_iload (zs_iload (by decide +kernel))) <|
  zA_c (zOk_sn zn_putI (zs_putI (k := 13) rfl (by decide) (by decide +kernel) rfl rfl (by decide +kernel) zw_1192)) <|
  zA_c (zOk_fl zn_iinc (zs_iinc rfl (by decide +kernel))) <|
  zA_c (zOk_fl zn_iload (zs_iload (by decide +kernel))) <|
  zA_c (zOk_fl zn_istore (zs_istore (by decide +kernel))) <|
  zA_c (zOk_fl zn_push (zs_iconst (n := 0) (by decide +kernel) rfl)) <|
  zA_c (zOk_fl zn_istore (zs_istore (by decide +kernel))) <|
  zA_c (zOk_fl zn_iload (zs_iload (by decide +kernel))) <|
  zA_c (zOk_fl zn_iload (zs_iload_n (q := 3) rfl (by decide +kernel))) <|
  zA_c (zOk_fl zn_icge (zs_icge (off := 160) (by decide +kernel) (by decide))) <|
  zA_n
def zcl_219_2 : List (Nat × zmI) := [(65, zm_aload 66 0), (66, zm_iload 67 1), (67, zm_iload 69 4), (69, zm_call 72 197 3 true 12), (72, zm_call 75 220 1 true 99), (75, zm_push 76 (-1)), (76, zm_iceq 79 83), (79, zm_push 80 1), (80, zm_goto 84), (83, zm_push 84 0), (84, zm_istore 86 8), (86, zm_aload 87 0), (87, zm_iload 88 1), (88, zm_iload 90 4), (90, zm_call 93 197 3 true 12), (93, zm_call 96 221 1 true 99)]
theorem zmc_219_2 (l : Launch) : zAll l "ChessWireModel" prog_14_method_61_code 11 false (some .int) zcl_219_2 :=
  zA_c (zOk_fl zn_aload (zs_aload_n (q := 0) rfl (by decide +kernel))) <|
  zA_c (zOk_fl zn_iload (zs_iload_n (q := 1) rfl (by decide +kernel))) <|
  zA_c (zOk_fl zn_iload (zs_iload (by decide +kernel))) <|
  zA_c (zk_V zq_197 zw_1156 rfl (by decide +kernel)) <|
  zA_c (zk_S zq_220 zw_1365 (by decide +kernel)) <|
  zA_c (zOk_fl zn_push (zs_iconst (n := (-1)) (by decide +kernel) rfl)) <|
  zA_c (zOk_fl zn_iceq (zs_iceq (off := 7) (by decide +kernel) (by decide))) <|
  zA_c (zOk_fl zn_push (zs_iconst (n := 1) (by decide +kernel) rfl)) <|
  zA_c (zOk_fl zn_goto (zs_goto (off := 4) (by decide +kernel) (by decide))) <|
  zA_c (zOk_fl zn_push (zs_iconst (n := 0) (by decide +kernel) rfl)) <|
  zA_c (zOk_fl zn_istore (zs_istore (by decide +kernel))) <|
  zA_c (zOk_fl zn_aload (zs_aload_n (q := 0) rfl (by decide +kernel))) <|
  zA_c (zOk_fl zn_iload (zs_iload_n (q := 1) rfl (by decide +kernel))) <|
  zA_c (zOk_fl zn_iload (zs_iload (by decide +kernel))) <|
  zA_c (zk_V zq_197 zw_1156 rfl (by decide +kernel)) <|
  zA_c (zk_S zq_221 zw_1370 (by decide +kernel)) <|
  zA_n
def zcl_219_3 : List (Nat × zmI) := [(96, zm_push 97 (-1)), (97, zm_iceq 100 104), (100, zm_push 101 1), (101, zm_goto 105), (104, zm_push 105 0), (105, zm_istore 107 9), (107, zm_iload 109 8), (109, zm_ifeq 112 151), (112, zm_iload 114 7), (114, zm_ifne 117 121), (117, zm_push 118 1), (118, zm_goto 152), (121, zm_iload 123 7), (123, zm_push 124 1), (124, zm_iceq 127 133), (127, zm_iload 129 7)]
theorem zmc_219_3 (l : Launch) : zAll l "ChessWireModel" prog_14_method_61_code 11 false (some .int) zcl_219_3 :=
  zA_c (zOk_fl zn_push (zs_iconst (n := (-1)) (by decide +kernel) rfl)) <|
  zA_c (zOk_fl zn_iceq (zs_iceq (off := 7) (by decide +kernel) (by decide))) <|
  zA_c (zOk_fl zn_push (zs_iconst (n := 1) (by decide +kernel) rfl)) <|
  zA_c (zOk_fl zn_goto (zs_goto (off := 4) (by decide +kernel) (by decide))) <|
  zA_c (zOk_fl zn_push (zs_iconst (n := 0) (by decide +kernel) rfl)) <|
  zA_c (zOk_fl zn_istore (zs_istore (by decide +kernel))) <|
  zA_c (zOk_fl zn_iload (zs_iload (by decide +kernel))) <|
  zA_c (zOk_fl zn_ifeq (zs_ifeq (off := 42) (by decide +kernel) (by decide))) <|
  zA_c (zOk_fl zn_iload (zs_iload (by decide +kernel))) <|
  zA_c (zOk_fl zn_ifne (zs_ifne (off := 7) (by decide +kernel) (by decide))) <|
  zA_c (zOk_fl zn_push (zs_iconst (n := 1) (by decide +kernel) rfl)) <|
  zA_c (zOk_fl zn_goto (zs_goto (off := 34) (by decide +kernel) (by decide))) <|
  zA_c (zOk_fl zn_iload (zs_iload (by decide +kernel))) <|
  zA_c (zOk_fl zn_push (zs_iconst (n := 1) (by decide +kernel) rfl)) <|
  zA_c (zOk_fl zn_iceq (zs_iceq (off := 9) (by decide +kernel) (by decide))) <|
  zA_c (zOk_fl zn_iload (zs_iload (by decide +kernel))) <|
  zA_n
def zcl_219_4 : List (Nat × zmI) := [(129, zm_push 130 2), (130, zm_icne 133 137), (133, zm_push 134 4), (134, zm_goto 152), (137, zm_iload 139 7), (139, zm_push 140 3), (140, zm_icne 143 147), (143, zm_push 144 5), (144, zm_goto 152), (147, zm_push 148 (-1)), (148, zm_goto 152), (151, zm_push 152 (-1)), (152, zm_istore 154 10), (154, zm_iload 156 9), (156, zm_ifeq 159 199), (159, zm_iload 161 7)]
theorem zmc_219_4 (l : Launch) : zAll l "ChessWireModel" prog_14_method_61_code 11 false (some .int) zcl_219_4 :=
  zA_c (zOk_fl zn_push (zs_iconst (n := 2) (by decide +kernel) rfl)) <|
  zA_c (zOk_fl zn_icne (zs_icne (off := 7) (by decide +kernel) (by decide))) <|
  zA_c (zOk_fl zn_push (zs_iconst (n := 4) (by decide +kernel) rfl)) <|
  zA_c (zOk_fl zn_goto (zs_goto (off := 18) (by decide +kernel) (by decide))) <|
  zA_c (zOk_fl zn_iload (zs_iload (by decide +kernel))) <|
  zA_c (zOk_fl zn_push (zs_iconst (n := 3) (by decide +kernel) rfl)) <|
  zA_c (zOk_fl zn_icne (zs_icne (off := 7) (by decide +kernel) (by decide))) <|
  zA_c (zOk_fl zn_push (zs_iconst (n := 5) (by decide +kernel) rfl)) <|
  zA_c (zOk_fl zn_goto (zs_goto (off := 8) (by decide +kernel) (by decide))) <|
  zA_c (zOk_fl zn_push (zs_iconst (n := (-1)) (by decide +kernel) rfl)) <|
  zA_c (zOk_fl zn_goto (zs_goto (off := 4) (by decide +kernel) (by decide))) <|
  zA_c (zOk_fl zn_push (zs_iconst (n := (-1)) (by decide +kernel) rfl)) <|
  zA_c (zOk_fl zn_istore (zs_istore (by decide +kernel))) <|
  zA_c (zOk_fl zn_iload (zs_iload (by decide +kernel))) <|
  zA_c (zOk_fl zn_ifeq (zs_ifeq (off := 43) (by decide +kernel) (by decide))) <|
  zA_c (zOk_fl zn_iload (zs_iload (by decide +kernel))) <|
  zA_n
def zcl_219_5 : List (Nat × zmI) := [(161, zm_ifne 164 168), (164, zm_push 165 2), (165, zm_goto 201), (168, zm_iload 170 7), (170, zm_push 171 1), (171, zm_icne 174 178), (174, zm_push 175 3), (175, zm_goto 201), (178, zm_iload 180 7), (180, zm_push 181 4), (181, zm_iceq 184 190), (184, zm_iload 186 7), (186, zm_push 187 5), (187, zm_icne 190 195), (190, zm_push 192 6)]
theorem zmc_219_5 (l : Launch) : zAll l "ChessWireModel" prog_14_method_61_code 11 false (some .int) zcl_219_5 :=
  zA_c (zOk_fl zn_ifne (zs_ifne (off := 7) (by decide +kernel) (by decide))) <|
  zA_c (zOk_fl zn_push (zs_iconst (n := 2) (by decide +kernel) rfl)) <|
  zA_c (zOk_fl zn_goto (zs_goto (off := 36) (by decide +kernel) (by decide))) <|
  zA_c (zOk_fl zn_iload (zs_iload (by decide +kernel))) <|
  zA_c (zOk_fl zn_push (zs_iconst (n := 1) (by decide +kernel) rfl)) <|
  zA_c (zOk_fl zn_icne (zs_icne (off := 7) (by decide +kernel) (by decide))) <|
  zA_c (zOk_fl zn_push (zs_iconst (n := 3) (by decide +kernel) rfl)) <|
  zA_c (zOk_fl zn_goto (zs_goto (off := 26) (by decide +kernel) (by decide))) <|
  zA_c (zOk_fl zn_iload (zs_iload (by decide +kernel))) <|
  zA_c (zOk_fl zn_push (zs_iconst (n := 4) (by decide +kernel) rfl)) <|
  zA_c (zOk_fl zn_iceq (zs_iceq (off := 9) (by decide +kernel) (by decide))) <|
  zA_c (zOk_fl zn_iload (zs_iload (by decide +kernel))) <|
  zA_c (zOk_fl zn_push (zs_iconst (n := 5) (by decide +kernel) rfl)) <|
  zA_c (zOk_fl zn_icne (zs_icne (off := 8) (by decide +kernel) (by decide))) <|
  zA_c (zOk_fl zn_push (zs_bipush (n := 6) (by decide +kernel) rfl)) <|
  zA_n
def zcl_219_6 : List (Nat × zmI) := [(192, zm_goto 201), (195, zm_push 196 (-1)), (196, zm_goto 201), (199, zm_iload 201 10), (201, zm_istore 203 10), (203, zm_iload 205 10), (205, zm_push 206 (-1)), (206, zm_icne 209 212), (209, zm_iload 211 4), (211, zm_iret), (212, zm_iload 214 10), (214, zm_istore 216 7), (216, zm_iinc 219 4 1), (219, zm_goto 59), (222, zm_iload 224 7)]
theorem zmc_219_6 (l : Launch) : zAll l "ChessWireModel" prog_14_method_61_code 11 false (some .int) zcl_219_6 :=
  zA_c (zOk_fl zn_goto (zs_goto (off := 9) (by decide +kernel) (by decide))) <|
  zA_c (zOk_fl zn_push (zs_iconst (n := (-1)) (by decide +kernel) rfl)) <|
  zA_c (zOk_fl zn_goto (zs_goto (off := 5) (by decide +kernel) (by decide))) <|
  zA_c (zOk_fl zn_iload (zs_iload (by decide +kernel))) <|
  zA_c (zOk_fl zn_istore (zs_istore (by decide +kernel))) <|
  zA_c (zOk_fl zn_iload (zs_iload (by decide +kernel))) <|
  zA_c (zOk_fl zn_push (zs_iconst (n := (-1)) (by decide +kernel) rfl)) <|
  zA_c (zOk_fl zn_icne (zs_icne (off := 6) (by decide +kernel) (by decide))) <|
  zA_c (zOk_fl zn_iload (zs_iload (by decide +kernel))) <|
  zA_c (zs_iret (by decide +kernel) rfl) <|
  zA_c (zOk_fl zn_iload (zs_iload (by decide +kernel))) <|
  zA_c (zOk_fl zn_istore (zs_istore (by decide +kernel))) <|
  zA_c (zOk_fl zn_iinc (zs_iinc rfl (by decide +kernel))) <|
  zA_c (zOk_fl zn_goto (zs_goto (off := (-160)) (by decide +kernel) (by decide))) <|
  zA_c (zOk_fl zn_iload (zs_iload (by decide +kernel))) <|
  zA_n
def zcl_219_7 : List (Nat × zmI) := [(224, zm_ifeq 227 239), (227, zm_iload 229 7), (229, zm_push 230 4), (230, zm_iceq 233 239), (233, zm_iload 235 7), (235, zm_push 236 5), (236, zm_icne 239 242), (239, zm_iload 241 4), (241, zm_iret), (242, zm_aload 243 0), (243, zm_iload 244 1), (244, zm_iload 246 6), (246, zm_iload 247 3), (247, zm_iload 249 6), (249, zm_bin 250 (fun x y => w32 (x - y))), (250, zm_call 253 222 4 false 12), (253, zm_push 254 (-1)), (254, zm_iret)]
theorem zmc_219_7 (l : Launch) : zAll l "ChessWireModel" prog_14_method_61_code 11 false (some .int) zcl_219_7 :=
  zA_c (zOk_fl zn_ifeq (zs_ifeq (off := 15) (by decide +kernel) (by decide))) <|
  zA_c (zOk_fl zn_iload (zs_iload (by decide +kernel))) <|
  zA_c (zOk_fl zn_push (zs_iconst (n := 4) (by decide +kernel) rfl)) <|
  zA_c (zOk_fl zn_iceq (zs_iceq (off := 9) (by decide +kernel) (by decide))) <|
  zA_c (zOk_fl zn_iload (zs_iload (by decide +kernel))) <|
  zA_c (zOk_fl zn_push (zs_iconst (n := 5) (by decide +kernel) rfl)) <|
  zA_c (zOk_fl zn_icne (zs_icne (off := 6) (by decide +kernel) (by decide))) <|
  zA_c (zOk_fl zn_iload (zs_iload (by decide +kernel))) <|
  zA_c (zs_iret (by decide +kernel) rfl) <|
  zA_c (zOk_fl zn_aload (zs_aload_n (q := 0) rfl (by decide +kernel))) <|
  zA_c (zOk_fl zn_iload (zs_iload_n (q := 1) rfl (by decide +kernel))) <|
  zA_c (zOk_fl zn_iload (zs_iload (by decide +kernel))) <|
  zA_c (zOk_fl zn_iload (zs_iload_n (q := 3) rfl (by decide +kernel))) <|
  zA_c (zOk_fl zn_iload (zs_iload (by decide +kernel))) <|
  zA_c (zOk_fl zn_bin (zs_isub (by decide +kernel))) <|
  zA_c (zk_V zq_222 zw_1373 rfl (by decide +kernel)) <|
  zA_c (zOk_fl zn_push (zs_iconst (n := (-1)) (by decide +kernel) rfl)) <|
  zA_c (zs_iret (by decide +kernel) rfl) <|
  zA_n
def zc_219 : Nat → zmI := zgetC [zcl_219_0, zcl_219_1, zcl_219_2, zcl_219_3, zcl_219_4, zcl_219_5, zcl_219_6, zcl_219_7]
theorem zmf_219 (l : Launch) : zMf l zc_219 219 := ⟨by decide +kernel, false, (fun h => by cases h), fun pc => zgetC_ok (zA2_c (zmc_219_0 l) (zA2_c (zmc_219_1 l) (zA2_c (zmc_219_2 l) (zA2_c (zmc_219_3 l) (zA2_c (zmc_219_4 l) (zA2_c (zmc_219_5 l) (zA2_c (zmc_219_6 l) (zA2_c (zmc_219_7 l) (zA2_n))))))))) pc⟩
def zcl_220_0 : List (Nat × zmI) := [(0, zm_iload 1 0), (1, zm_i2l 2), (2, zm_pushl 5 97), (5, zm_pushl 8 104), (8, zm_call 11 201 3 true 99), (11, zm_ifeq 14 21), (14, zm_iload 15 0), (15, zm_push 17 97), (17, zm_bin 18 (fun x y => w32 (x - y))), (18, zm_goto 22), (21, zm_push 22 (-1)), (22, zm_iret)]
theorem zmc_220_0 (l : Launch) : zAll l "ChessWireModel" prog_14_method_59_code 1 false (some .int) zcl_220_0 :=
  zA_c (zOk_fl zn_iload (zs_iload_n (q := 0) rfl (by decide +kernel))) <|
  zA_c (zOk_fl zn_i2l (zs_i2l (by decide +kernel))) <|
  zA_c (zOk_fl zn_pushl (zs_ldc2 (by decide +kernel) zw_1368 rfl)) <|
  zA_c (zOk_fl zn_pushl (zs_ldc2 (by decide +kernel) zw_1369 rfl)) <|
  zA_c (zk_S zq_201 zw_1172 (by decide +kernel)) <|
  zA_c (zOk_fl zn_ifeq (zs_ifeq (off := 10) (by decide +kernel) (by decide))) <|
  zA_c (zOk_fl zn_iload (zs_iload_n (q := 0) rfl (by decide +kernel))) <|
  zA_c (zOk_fl zn_push (zs_bipush (n := 97) (by decide +kernel) rfl)) <|
  zA_c (zOk_fl zn_bin (zs_isub (by decide +kernel))) <|
  zA_c (zOk_fl zn_goto (zs_goto (off := 4) (by decide +kernel) (by decide))) <|
  zA_c (zOk_fl zn_push (zs_iconst (n := (-1)) (by decide +kernel) rfl)) <|
  zA_c (zs_iret (by decide +kernel) rfl) <|
  zA_n
def zc_220 : Nat → zmI := zgetC [zcl_220_0]
theorem zmf_220 (l : Launch) : zMf l zc_220 220 := ⟨by decide +kernel, false, (fun h => by cases h), fun pc => zgetC_ok (zA2_c (zmc_220_0 l) (zA2_n)) pc⟩
def zcl_221_0 : List (Nat × zmI) := [(0, zm_iload 1 0), (1, zm_i2l 2), (2, zm_pushl 5 49), (5, zm_pushl 8 56), (8, zm_call 11 201 3 true 99), (11, zm_ifeq 14 21), (14, zm_iload 15 0), (15, zm_push 17 49), (17, zm_bin 18 (fun x y => w32 (x - y))), (18, zm_goto 22), (21, zm_push 22 (-1)), (22, zm_iret)]
theorem zmc_221_0 (l : Launch) : zAll l "ChessWireModel" prog_14_method_60_code 1 false (some .int) zcl_221_0 :=
  zA_c (zOk_fl zn_iload (zs_iload_n (q := 0) rfl (by decide +kernel))) <|
  zA_c (zOk_fl zn_i2l (zs_i2l (by decide +kernel))) <|
  zA_c (zOk_fl zn_pushl (zs_ldc2 (by decide +kernel) zw_1170 rfl)) <|
  zA_c (zOk_fl zn_pushl (zs_ldc2 (by decide +kernel) zw_1171 rfl)) <|
  zA_c (zk_S zq_201 zw_1172 (by decide +kernel)) <|
  zA_c (zOk_fl zn_ifeq (zs_ifeq (off := 10) (by decide +kernel) (by decide))) <|
  zA_c (zOk_fl zn_iload (zs_iload_n (q := 0) rfl (by decide +kernel))) <|
  zA_c (zOk_fl zn_push (zs_bipush (n := 49) (by decide +kernel) rfl)) <|
  zA_c (zOk_fl zn_bin (zs_isub (by decide +kernel))) <|
  zA_c (zOk_fl zn_goto (zs_goto (off := 4) (by decide +kernel) (by decide))) <|
  zA_c (zOk_fl zn_push (zs_iconst (n := (-1)) (by decide +kernel) rfl)) <|
  zA_c (zs_iret (by decide +kernel) rfl) <|
  zA_n
def zc_221 : Nat → zmI := zgetC [zcl_221_0]
theorem zmf_221 (l : Launch) : zMf l zc_221 221 := ⟨by decide +kernel, false, (fun h => by cases h), fun pc => zgetC_ok (zA2_c (zmc_221_0 l) (zA2_n)) pc⟩
def zcl_222_0 : List (Nat × zmI) := [(0, zm_aload 1 0), (1, zm_iload 2 1), (2, zm_iload 3 2), (3, zm_call 6 197 3 true 12), (6, zm_istore 8 4), (8, zm_aload 9 0), (9, zm_push 10 (-1)), (10, zm_putI 13 12 14), (13, zm_aload 14 0), (14, zm_push 15 (-1)), (15, zm_putI 18 12 15), (18, zm_iload 19 3), (19, zm_push 20 1), (20, zm_icne 23 42), (23, zm_aload 24 0), (24, zm_iload 26 4), (26, zm_call 29 220 1 true 99), (29, zm_putI 32 12 16)]
theorem zmc_222_0 (l : Launch) : zAll l "ChessWireModel" prog_14_method_62_code 5 false (none) zcl_222_0 :=
  zA_c (zOk_fl zn_aload (zs_aload_n (q := 0) rfl (by decide +kernel))) <|
  zA_c (zOk_fl zn_iload (zs_iload_n (q := 1) rfl (by decide +kernel))) <|
  zA_c (zOk_fl zn_iload (zs_iload_n (q := 2) rfl (by decide +kernel))) <|
  zA_c (zk_V zq_197 zw_1156 rfl (by decide +kernel)) <|
  zA_c (zOk_fl zn_istore (zs_istore (by decide +kernel))) <|
  zA_c (zOk_fl zn_aload (zs_aload_n (q := 0) rfl (by decide +kernel))) <|
  zA_c (zOk_fl zn_push (zs_iconst (n := (-1)) (by decide +kernel) rfl)) <|
  zA_c (zOk_sn zn_putI (zs_putI (k := 14) rfl (by decide) (by decide +kernel) rfl rfl (by decide +kernel) zw_1193)) <|
  zA_c (zOk_fl zn_aload (zs_aload_n (q := 0) rfl (by decide +kernel))) <|
  zA_c (zOk_fl zn_push (zs_iconst (n := (-1)) (by decide +kernel) rfl)) <|
  zA_c (zOk_sn zn_putI (zs_putI (k := 15) rfl (by decide) (by decide +kernel) rfl rfl (by decide +kernel) zw_1194)) <|
  zA_c (zOk_fl zn_iload (zs_iload_n (q := 3) rfl (by decide +kernel))) <|
  zA_c (zOk_fl zn_push (zs_iconst (n := 1) (by decide +kernel) rfl)) <|
  zA_c (zOk_fl zn_icne (zs_icne (off := 22) (by decide +kernel) (by decide))) <|
  zA_c (zOk_fl zn_aload (zs_aload_n (q := 0) rfl (by decide +kernel))) <|
  zA_c (zOk_fl zn_iload (zs_iload (by decide +kernel))) <|
  zA_c (zk_S zq_220 zw_1365 (by decide +kernel)) <|
  zA_c (zOk_sn zn_putI (zs_putI (k := 16) rfl (by decide) (by decide +kernel) rfl rfl (by decide +kernel) zw_1195)) <|
  zA_n
def zcl_222_1 : List (Nat × zmI) := [(32, zm_aload 33 0), (33, zm_iload 35 4), (35, zm_call 38 221 1 true 99), (38, zm_putI 41 12 17), (41, zm_vret), (42, zm_aload 43 0), (43, zm_aload 44 0), (44, zm_iload 45 1), (45, zm_iload 46 2), (46, zm_iload 47 3), (47, zm_bin 48 (fun x y => w32 (x + y))), (48, zm_push 49 2), (49, zm_bin 50 (fun x y => w32 (x - y))), (50, zm_call 53 197 3 true 12), (53, zm_call 56 220 1 true 99), (56, zm_putI 59 12 16), (59, zm_aload 60 0), (60, zm_aload 61 0), (61, zm_iload 62 1), (62, zm_iload 63 2), (63, zm_iload 64 3)]
theorem zmc_222_1 (l : Launch) : zAll l "ChessWireModel" prog_14_method_62_code 5 false (none) zcl_222_1 :=
  zA_c (zOk_fl zn_aload (zs_aload_n (q := 0) rfl (by decide +kernel))) <|
  zA_c (zOk_fl zn_iload (zs_iload (by decide +kernel))) <|
  zA_c (zk_S zq_221 zw_1370 (by decide +kernel)) <|
  zA_c (zOk_sn zn_putI (zs_putI (k := 17) rfl (by decide) (by decide +kernel) rfl rfl (by decide +kernel) zw_1196)) <|
  zA_c (zs_vret (by decide +kernel) rfl) <|
  zA_c (zOk_fl zn_aload (zs_aload_n (q := 0) rfl (by decide +kernel))) <|
  zA_c (zOk_fl zn_aload (zs_aload_n (q := 0) rfl (by decide +kernel))) <|
  zA_c (zOk_fl zn_iload (zs_iload_n (q := 1) rfl (by decide +kernel))) <|
  zA_c (zOk_fl zn_iload (zs_iload_n (q := 2) rfl (by decide +kernel))) <|
  zA_c (zOk_fl zn_iload (zs_iload_n (q := 3) rfl (by decide +kernel))) <|
  zA_c (zOk_fl zn_bin (zs_iadd (by decide +kernel))) <|
  zA_c (zOk_fl zn_push (zs_iconst (n := 2) (by decide +kernel) rfl)) <|
  zA_c (zOk_fl zn_bin (zs_isub (by decide +kernel))) <|
  zA_c (zk_V zq_197 zw_1156 rfl (by decide +kernel)) <|
  zA_c (zk_S zq_220 zw_1365 (by decide +kernel)) <|
  zA_c (zOk_sn zn_putI (zs_putI (k := 16) rfl (by decide) (by decide +kernel) rfl rfl (by decide +kernel) zw_1195)) <|
  zA_c (zOk_fl zn_aload (zs_aload_n (q := 0) rfl (by decide +kernel))) <|
  zA_c (zOk_fl zn_aload (zs_aload_n (q := 0) rfl (by decide +kernel))) <|
  zA_c (zOk_fl zn_iload (zs_iload_n (q := 1) rfl (by decide +kernel))) <|
  zA_c (zOk_fl zn_iload (zs_iload_n (q := 2) rfl (by decide +kernel))) <|
  zA_c (zOk_fl zn_iload (zs_iload_n (q := 3) rfl (by decide +kernel))) <|
  zA_n
def zcl_222_2 : List (Nat × zmI) := [(64, zm_bin 65 (fun x y => w32 (x + y))), (65, zm_push 66 1), (66, zm_bin 67 (fun x y => w32 (x - y))), (67, zm_call 70 197 3 true 12), (70, zm_call 73 221 1 true 99), (73, zm_putI 76 12 17), (76, zm_iload 77 3), (77, zm_push 78 2), (78, zm_icle 81 115), (81, zm_aload 82 0), (82, zm_iload 84 4), (84, zm_call 87 220 1 true 99), (87, zm_putI 90 12 14), (90, zm_aload 91 0), (91, zm_iload 92 3), (92, zm_push 93 4), (93, zm_icne 96 107)]
theorem zmc_222_2 (l : Launch) : zAll l "ChessWireModel" prog_14_method_62_code 5 false (none) zcl_222_2 :=
  zA_c (zOk_fl zn_bin (zs_iadd (by decide +kernel))) <|
  zA_c (zOk_fl zn_push (zs_iconst (n := 1) (by decide +kernel) rfl)) <|
  zA_c (zOk_fl zn_bin (zs_isub (by decide +kernel))) <|
  zA_c (zk_V zq_197 zw_1156 rfl (by decide +kernel)) <|
  zA_c (zk_S zq_221 zw_1370 (by decide +kernel)) <|
  zA_c (zOk_sn zn_putI (zs_putI (k := 17) rfl (by decide) (by decide +kernel) rfl rfl (by decide +kernel) zw_1196)) <|
  zA_c (zOk_fl zn_iload (zs_iload_n (q := 3) rfl (by decide +kernel))) <|
  zA_c (zOk_fl zn_push (zs_iconst (n := 2) (by decide +kernel) rfl)) <|
  zA_c (zOk_fl zn_icle (zs_icle (off := 37) (by decide +kernel) (by decide))) <|
  zA_c (zOk_fl zn_aload (zs_aload_n (q := 0) rfl (by decide +kernel))) <|
  zA_c (zOk_fl zn_iload (zs_iload (by decide +kernel))) <|
  zA_c (zk_S zq_220 zw_1365 (by decide +kernel)) <|
  zA_c (zOk_sn zn_putI (zs_putI (k := 14) rfl (by decide) (by decide +kernel) rfl rfl (by decide +kernel) zw_1193)) <|
  zA_c (zOk_fl zn_aload (zs_aload_n (q := 0) rfl (by decide +kernel))) <|
  zA_c (zOk_fl zn_iload (zs_iload_n (q := 3) rfl (by decide +kernel))) <|
  zA_c (zOk_fl zn_push (zs_iconst (n := 4) (by decide +kernel) rfl)) <|
  zA_c (zOk_fl zn_icne (zs_icne (off := 14) (by decide +kernel) (by decide))) <|
  zA_n
def zcl_222_3 : List (Nat × zmI) := [(96, zm_aload 97 0), (97, zm_iload 98 1), (98, zm_iload 99 2), (99, zm_push 100 1), (100, zm_bin 101 (fun x y => w32 (x + y))), (101, zm_call 104 197 3 true 12), (104, zm_goto 109), (107, zm_iload 109 4), (109, zm_call 112 221 1 true 99), (112, zm_putI 115 12 15), (115, zm_vret)]
theorem zmc_222_3 (l : Launch) : zAll l "ChessWireModel" prog_14_method_62_code 5 false (none) zcl_222_3 :=
  zA_c (zOk_fl zn_aload (zs_aload_n (q := 0) rfl (by decide +kernel))) <|
  zA_c (zOk_fl zn_iload (zs_iload_n (q := 1) rfl (by decide +kernel))) <|
  zA_c (zOk_fl zn_iload (zs_iload_n (q := 2) rfl (by decide +kernel))) <|
  zA_c (zOk_fl zn_push (zs_iconst (n := 1) (by decide +kernel) rfl)) <|
  zA_c (zOk_fl zn_bin (zs_iadd (by decide +kernel))) <|
  zA_c (zk_V zq_197 zw_1156 rfl (by decide +kernel)) <|
  zA_c (zOk_fl zn_goto (zs_goto (off := 5) (by decide +kernel) (by decide))) <|
  zA_c (zOk_fl zn_iload (zs_iload (by decide +kernel))) <|
  zA_c (zk_S zq_221 zw_1370 (by decide +kernel)) <|
  zA_c (zOk_sn zn_putI (zs_putI (k := 15) rfl (by decide) (by decide +kernel) rfl rfl (by decide +kernel) zw_1194)) <|
  zA_c (zs_vret (by decide +kernel) rfl) <|
  zA_n
def zc_222 : Nat → zmI := zgetC [zcl_222_0, zcl_222_1, zcl_222_2, zcl_222_3]
theorem zmf_222 (l : Launch) : zMf l zc_222 222 := ⟨by decide +kernel, false, (fun h => by cases h), fun pc => zgetC_ok (zA2_c (zmc_222_0 l) (zA2_c (zmc_222_1 l) (zA2_c (zmc_222_2 l) (zA2_c (zmc_222_3 l) (zA2_n))))) pc⟩
def zcl_223_0 : List (Nat × zmI) := [(0, zm_aload 1 0), (1, zm_push 2 0), (2, zm_putI 5 12 27), (5, zm_aload 6 0), (6, zm_getR 9 12 6), (9, zm_push 10 2), (10, zm_ald 11 100), (11, zm_istore 12 1), (12, zm_iload 13 1), (13, zm_ifne 16 18), (16, zm_push 17 (-1)), (17, zm_iret), (18, zm_push 19 0), (19, zm_istore 20 2), (20, zm_aload 21 0), (21, zm_getI 24 12 27), (24, zm_push 26 12), (26, zm_icne 29 35), (29, zm_aload 30 0), (30, zm_iload 31 2), (31, zm_call 34 224 2 true 12)]
theorem zmc_223_0 (l : Launch) : zAll l "ChessWireModel" prog_14_method_94_code 5 false (some .int) zcl_223_0 :=
  zA_c (zOk_fl zn_aload (zs_aload_n (q := 0) rfl (by decide +kernel))) <|
  zA_c (zOk_fl zn_push (zs_iconst (n := 0) (by decide +kernel) rfl)) <|
  zA_c (zOk_sn zn_putI (zs_putI (k := 27) rfl (by decide) (by decide +kernel) rfl rfl (by decide +kernel) zw_1206)) <|
  zA_c (zOk_fl zn_aload (zs_aload_n (q := 0) rfl (by decide +kernel))) <|
  zA_c (zOk_fl zn_getR (zs_getR (k := 6) rfl (by decide) (by decide +kernel) rfl (by decide +kernel) zw_1185)) <|
  zA_c (zOk_fl zn_push (zs_iconst (n := 2) (by decide +kernel) rfl)) <|
  zA_c (zOk_fl zn_ald (zs_iald (by decide +kernel))) <|
  zA_c (zOk_fl zn_istore (zs_istore_n (q := 1) rfl (by decide +kernel))) <|
  zA_c (zOk_fl zn_iload (zs_iload_n (q := 1) rfl (by decide +kernel))) <|
  zA_c (zOk_fl zn_ifne (zs_ifne (off := 5) (by decide +kernel) (by decide))) <|
  zA_c (zOk_fl zn_push (zs_iconst (n := (-1)) (by decide +kernel) rfl)) <|
  zA_c (zs_iret (by decide +kernel) rfl) <|
  zA_c (zOk_fl zn_push (zs_iconst (n := 0) (by decide +kernel) rfl)) <|
  zA_c (zOk_fl zn_istore (zs_istore_n (q := 2) rfl (by decide +kernel))) <|
  zA_c (zOk_fl zn_aload (zs_aload_n (q := 0) rfl (by decide +kernel))) <|
  zA_c (zOk_fl zn_getI (zs_getI (k := 27) rfl (by decide) (by decide +kernel) rfl (by decide +kernel) zw_1206)) <|
  zA_c (zOk_fl zn_push (zs_bipush (n := 12) (by decide +kernel) rfl)) <|
  zA_c (zOk_fl zn_icne (zs_icne (off := 9) (by decide +kernel) (by decide))) <|
  zA_c (zOk_fl zn_aload (zs_aload_n (q := 0) rfl (by decide +kernel))) <|
  zA_c (zOk_fl zn_iload (zs_iload_n (q := 2) rfl (by decide +kernel))) <|
  zA_c (zk_V zq_224 zw_1381 rfl (by decide +kernel)) <|
  zA_n
def zcl_223_1 : List (Nat × zmI) := [(34, zm_iret), (35, zm_iload 36 2), (36, zm_istore 37 3), (37, zm_iload 38 3), (38, zm_iload 39 1), (39, zm_icge 42 59), (42, zm_aload 43 0), (43, zm_push 44 2), (44, zm_iload 45 3), (45, zm_call 48 197 3 true 12), (48, zm_push 50 59), (50, zm_iceq 53 59), (53, zm_iinc 56 3 1), (56, zm_goto 37), (59, zm_aload 60 0), (60, zm_push 61 2), (61, zm_iload 62 2), (62, zm_iload 63 3), (63, zm_call 66 219 4 true 12)]
theorem zmc_223_1 (l : Launch) : zAll l "ChessWireModel" prog_14_method_94_code 5 false (some .int) zcl_223_1 :=
  zA_c (zs_iret (by decide +kernel) rfl) <|
  zA_c (zOk_fl zn_iload (zs_iload_n (q := 2) rfl (by decide +kernel))) <|
  zA_c (zOk_fl zn_istore (zs_istore_n (q := 3) rfl (by decide +kernel))) <|
  zA_c (zOk_fl zn_iload (zs_iload_n (q := 3) rfl (by decide +kernel))) <|
  zA_c (zOk_fl zn_iload (zs_iload_n (q := 1) rfl (by decide +kernel))) <|
  zA_c (zOk_fl zn_icge (zs_icge (off := 20) (by decide +kernel) (by decide))) <|
  zA_c (zOk_fl zn_aload (zs_aload_n (q := 0) rfl (by decide +kernel))) <|
  zA_c (zOk_fl zn_push (zs_iconst (n := 2) (by decide +kernel) rfl)) <|
  zA_c (zOk_fl zn_iload (zs_iload_n (q := 3) rfl (by decide +kernel))) <|
  zA_c (zk_V zq_197 zw_1156 rfl (by decide +kernel)) <|
  zA_c (zOk_fl zn_push (zs_bipush (n := 59) (by decide +kernel) rfl)) <|
  zA_c (zOk_fl zn_iceq (zs_iceq (off := 9) (by decide +kernel) (by decide))) <|
  zA_c (zOk_fl zn_iinc (zs_iinc rfl (by decide +kernel))) <|
  zA_c (zOk_fl zn_goto (zs_goto (off := (-19)) (by decide +kernel) (by decide))) <|
  zA_c (zOk_fl zn_aload (zs_aload_n (q := 0) rfl (by decide +kernel))) <|
  zA_c (zOk_fl zn_push (zs_iconst (n := 2) (by decide +kernel) rfl)) <|
  zA_c (zOk_fl zn_iload (zs_iload_n (q := 2) rfl (by decide +kernel))) <|
  zA_c (zOk_fl zn_iload (zs_iload_n (q := 3) rfl (by decide +kernel))) <|
  zA_c (zk_V zq_219 zw_1360 rfl (by decide +kernel)) <|
  zA_n
def zcl_223_2 : List (Nat × zmI) := [(66, zm_istore 68 4), (68, zm_iload 70 4), (70, zm_push 71 (-1)), (71, zm_iceq 74 81), (74, zm_aload 75 0), (75, zm_iload 77 4), (77, zm_call 80 224 2 true 12), (80, zm_iret), (81, zm_aload 82 0), (82, zm_getR 85 12 28), (85, zm_aload 86 0), (86, zm_getI 89 12 27), (89, zm_iload 90 2), (90, zm_iast 91), (91, zm_aload 92 0), (92, zm_dup 93), (93, zm_getI 96 12 27)]
theorem zmc_223_2 (l : Launch) : zAll l "ChessWireModel" prog_14_method_94_code 5 false (some .int) zcl_223_2 :=
  zA_c (zOk_fl zn_istore (zs_istore (by decide +kernel))) <|
  zA_c (zOk_fl zn_iload (zs_iload (by decide +kernel))) <|
  zA_c (zOk_fl zn_push (zs_iconst (n := (-1)) (by decide +kernel) rfl)) <|
  zA_c (zOk_fl zn_iceq (zs_iceq (off := 10) (by decide +kernel) (by decide))) <|
  zA_c (zOk_fl zn_aload (zs_aload_n (q := 0) rfl (by decide +kernel))) <|
  zA_c (zOk_fl zn_iload (zs_iload (by decide +kernel))) <|
  zA_c (zk_V zq_224 zw_1381 rfl (by decide +kernel)) <|
  zA_c (zs_iret (by decide +kernel) rfl) <|
  zA_c (zOk_fl zn_aload (zs_aload_n (q := 0) rfl (by decide +kernel))) <|
  zA_c (zOk_fl zn_getR (zs_getR (k := 28) rfl (by decide) (by decide +kernel) rfl (by decide +kernel) zw_1207)) <|
  zA_c (zOk_fl zn_aload (zs_aload_n (q := 0) rfl (by decide +kernel))) <|
  zA_c (zOk_fl zn_getI (zs_getI (k := 27) rfl (by decide) (by decide +kernel) rfl (by decide +kernel) zw_1206)) <|
  zA_c (zOk_fl zn_iload (zs_iload_n (q := 2) rfl (by decide +kernel))) <|
  zA_c (zOk_sn zn_iast (zs_iast (by decide +kernel))) <|
  zA_c (zOk_fl zn_aload (zs_aload_n (q := 0) rfl (by decide +kernel))) <|
  zA_c (zOk_fl zn_dup (zs_dup (by decide +kernel))) <|
  zA_c (zOk_fl zn_getI (zs_getI (k := 27) rfl (by decide) (by decide +kernel) rfl (by decide +kernel) zw_1206)) <|
  zA_n
def zcl_223_3 : List (Nat × zmI) := [(96, zm_push 97 1), (97, zm_bin 98 (fun x y => w32 (x + y))), (98, zm_putI 101 12 27), (101, zm_aload 102 0), (102, zm_getR 105 12 28), (105, zm_aload 106 0), (106, zm_getI 109 12 27), (109, zm_iload 110 3), (110, zm_push 111 1), (111, zm_bin 112 (fun x y => w32 (x + y))), (112, zm_iast 113), (113, zm_iload 114 3), (114, zm_iload 115 1), (115, zm_icne 118 120), (118, zm_push 119 (-1)), (119, zm_iret), (120, zm_iload 121 3), (121, zm_push 122 1), (122, zm_bin 123 (fun x y => w32 (x + y))), (123, zm_istore 124 2), (124, zm_goto 20)]
theorem zmc_223_3 (l : Launch) : zAll l "ChessWireModel" prog_14_method_94_code 5 false (some .int) zcl_223_3 :=
  zA_c (zOk_fl zn_push (zs_iconst (n := 1) (by decide +kernel) rfl)) <|
  zA_c (zOk_fl zn_bin (zs_iadd (by decide +kernel))) <|
  zA_c (zOk_sn zn_putI (zs_putI (k := 27) rfl (by decide) (by decide +kernel) rfl rfl (by decide +kernel) zw_1206)) <|
  zA_c (zOk_fl zn_aload (zs_aload_n (q := 0) rfl (by decide +kernel))) <|
  zA_c (zOk_fl zn_getR (zs_getR (k := 28) rfl (by decide) (by decide +kernel) rfl (by decide +kernel) zw_1207)) <|
  zA_c (zOk_fl zn_aload (zs_aload_n (q := 0) rfl (by decide +kernel))) <|
  zA_c (zOk_fl zn_getI (zs_getI (k := 27) rfl (by decide) (by decide +kernel) rfl (by decide +kernel) zw_1206)) <|
  zA_c (zOk_fl zn_iload (zs_iload_n (q := 3) rfl (by decide +kernel))) <|
  zA_c (zOk_fl zn_push (zs_iconst (n := 1) (by decide +kernel) rfl)) <|
  zA_c (zOk_fl zn_bin (zs_iadd (by decide +kernel))) <|
  zA_c (zOk_sn zn_iast (zs_iast (by decide +kernel))) <|
  zA_c (zOk_fl zn_iload (zs_iload_n (q := 3) rfl (by decide +kernel))) <|
  zA_c (zOk_fl zn_iload (zs_iload_n (q := 1) rfl (by decide +kernel))) <|
  zA_c (zOk_fl zn_icne (zs_icne (off := 5) (by decide +kernel) (by decide))) <|
  zA_c (zOk_fl zn_push (zs_iconst (n := (-1)) (by decide +kernel) rfl)) <|
  zA_c (zs_iret (by decide +kernel) rfl) <|
  zA_c (zOk_fl zn_iload (zs_iload_n (q := 3) rfl (by decide +kernel))) <|
  zA_c (zOk_fl zn_push (zs_iconst (n := 1) (by decide +kernel) rfl)) <|
  zA_c (zOk_fl zn_bin (zs_iadd (by decide +kernel))) <|
  zA_c (zOk_fl zn_istore (zs_istore_n (q := 2) rfl (by decide +kernel))) <|
  zA_c (zOk_fl zn_goto (zs_goto (off := (-104)) (by decide +kernel) (by decide))) <|
  zA_n
def zc_223 : Nat → zmI := zgetC [zcl_223_0, zcl_223_1, zcl_223_2, zcl_223_3]
theorem zmf_223 (l : Launch) : zMf l zc_223 223 := ⟨by decide +kernel, false, (fun h => by cases h), fun pc => zgetC_ok (zA2_c (zmc_223_0 l) (zA2_c (zmc_223_1 l) (zA2_c (zmc_223_2 l) (zA2_c (zmc_223_3 l) (zA2_n))))) pc⟩
def zcl_224_0 : List (Nat × zmI) := [(0, zm_aload 1 0), (1, zm_push 2 0), (2, zm_putI 5 12 27), (5, zm_iload 6 1), (6, zm_iret)]
theorem zmc_224_0 (l : Launch) : zAll l "ChessWireModel" prog_14_method_93_code 2 false (some .int) zcl_224_0 :=
  zA_c (zOk_fl zn_aload (zs_aload_n (q := 0) rfl (by decide +kernel))) <|
  zA_c (zOk_fl zn_push (zs_iconst (n := 0) (by decide +kernel) rfl)) <|
  zA_c (zOk_sn zn_putI (zs_putI (k := 27) rfl (by decide) (by decide +kernel) rfl rfl (by decide +kernel) zw_1206)) <|
  zA_c (zOk_fl zn_iload (zs_iload_n (q := 1) rfl (by decide +kernel))) <|
  zA_c (zs_iret (by decide +kernel) rfl) <|
  zA_n
def zc_224 : Nat → zmI := zgetC [zcl_224_0]
theorem zmf_224 (l : Launch) : zMf l zc_224 224 := ⟨by decide +kernel, false, (fun h => by cases h), fun pc => zgetC_ok (zA2_c (zmc_224_0 l) (zA2_n)) pc⟩
def zcl_225_0 : List (Nat × zmI) := [(0, zm_iload 1 1), (1, zm_call 4 226 1 true 99), (4, zm_ifeq 7 19), (7, zm_aload 8 0), (8, zm_getR 11 12 8), (11, zm_iload 12 1), (12, zm_ald 13 100), (13, zm_call 16 227 1 true 99), (16, zm_goto 21), (19, zm_push 21 (-2)), (21, zm_iret)]
theorem zmc_225_0 (l : Launch) : zAll l "ChessWireModel" prog_14_method_33_code 2 false (some .int) zcl_225_0 :=
  zA_c (zOk_fl zn_iload (zs_iload_n (q := 1) rfl (by decide +kernel))) <|
  zA_c (zk_S zq_226 zw_1389 (by decide +kernel)) <|
  zA_c (zOk_fl zn_ifeq (zs_ifeq (off := 15) (by decide +kernel) (by decide))) <|
  zA_c (zOk_fl zn_aload (zs_aload_n (q := 0) rfl (by decide +kernel))) <|
  zA_c (zOk_fl zn_getR (zs_getR (k := 8) rfl (by decide) (by decide +kernel) rfl (by decide +kernel) zw_1187)) <|
  zA_c (zOk_fl zn_iload (zs_iload_n (q := 1) rfl (by decide +kernel))) <|
  zA_c (zOk_fl zn_ald (zs_iald (by decide +kernel))) <|
  zA_c (zk_S zq_227 zw_1393 (by decide +kernel)) <|
  zA_c (zOk_fl zn_goto (zs_goto (off := 5) (by decide +kernel) (by decide))) <|
  zA_c (zOk_fl zn_push (zs_bipush (n := (-2)) (by decide +kernel) rfl)) <|
  zA_c (zs_iret (by decide +kernel) rfl) <|
  zA_n
def zc_225 : Nat → zmI := zgetC [zcl_225_0]
theorem zmf_225 (l : Launch) : zMf l zc_225 225 := ⟨by decide +kernel, false, (fun h => by cases h), fun pc => zgetC_ok (zA2_c (zmc_225_0 l) (zA2_n)) pc⟩
def zcl_226_0 : List (Nat × zmI) := [(0, zm_iload 1 0), (1, zm_i2l 2), (2, zm_pushl 3 0), (3, zm_pushl 6 63), (6, zm_call 9 201 3 true 99), (9, zm_zret)]
theorem zmc_226_0 (l : Launch) : zAll l "ChessWireModel" prog_14_method_32_code 1 false (some .boolean) zcl_226_0 :=
  zA_c (zOk_fl zn_iload (zs_iload_n (q := 0) rfl (by decide +kernel))) <|
  zA_c (zOk_fl zn_i2l (zs_i2l (by decide +kernel))) <|
  zA_c (zOk_fl zn_pushl (zs_lconst (n := 0) (by decide +kernel) rfl)) <|
  zA_c (zOk_fl zn_pushl (zs_ldc2 (by decide +kernel) zw_1392 rfl)) <|
  zA_c (zk_S zq_201 zw_1172 (by decide +kernel)) <|
  zA_c (zs_zret (by decide +kernel) rfl) <|
  zA_n
def zc_226 : Nat → zmI := zgetC [zcl_226_0]
theorem zmf_226 (l : Launch) : zMf l zc_226 226 := ⟨by decide +kernel, false, (fun h => by cases h), fun pc => zgetC_ok (zA2_c (zmc_226_0 l) (zA2_n)) pc⟩
def zcl_227_0 : List (Nat × zmI) := [(0, zm_iload 1 0), (1, zm_ifne 4 8), (4, zm_push 5 0), (5, zm_goto 31), (8, zm_iload 9 0), (9, zm_push 11 8), (11, zm_icle 14 27), (14, zm_iload 15 0), (15, zm_push 17 8), (17, zm_bin 18 (fun x y => w32 (x - y))), (18, zm_call 21 228 1 true 99), (21, zm_push 23 32), (23, zm_bin 24 (fun x y => w32 (x + y))), (24, zm_goto 31), (27, zm_iload 28 0), (28, zm_call 31 228 1 true 99), (31, zm_iret)]
theorem zmc_227_0 (l : Launch) : zAll l "ChessWireModel" prog_14_method_23_code 1 false (some .int) zcl_227_0 :=
  zA_c (zOk_fl zn_iload (zs_iload_n (q := 0) rfl (by decide +kernel))) <|
  zA_c (zOk_fl zn_ifne (zs_ifne (off := 7) (by decide +kernel) (by decide))) <|
  zA_c (zOk_fl zn_push (zs_iconst (n := 0) (by decide +kernel) rfl)) <|
  zA_c (zOk_fl zn_goto (zs_goto (off := 26) (by decide +kernel) (by decide))) <|
  zA_c (zOk_fl zn_iload (zs_iload_n (q := 0) rfl (by decide +kernel))) <|
  zA_c (zOk_fl zn_push (zs_bipush (n := 8) (by decide +kernel) rfl)) <|
  zA_c (zOk_fl zn_icle (zs_icle (off := 16) (by decide +kernel) (by decide))) <|
  zA_c (zOk_fl zn_iload (zs_iload_n (q := 0) rfl (by decide +kernel))) <|
  zA_c (zOk_fl zn_push (zs_bipush (n := 8) (by decide +kernel) rfl)) <|
  zA_c (zOk_fl zn_bin (zs_isub (by decide +kernel))) <|
  zA_c (zk_S zq_228 zw_1396 (by decide +kernel)) <|
  zA_c (zOk_fl zn_push (zs_bipush (n := 32) (by decide +kernel) rfl)) <|
  zA_c (zOk_fl zn_bin (zs_iadd (by decide +kernel))) <|
  zA_c (zOk_fl zn_goto (zs_goto (off := 7) (by decide +kernel) (by decide))) <|
  zA_c (zOk_fl zn_iload (zs_iload_n (q := 0) rfl (by decide +kernel))) <|
  zA_c (zk_S zq_228 zw_1396 (by decide +kernel)) <|
  zA_c (zs_iret (by decide +kernel) rfl) <|
  zA_n
def zc_227 : Nat → zmI := zgetC [zcl_227_0]
theorem zmf_227 (l : Launch) : zMf l zc_227 227 := ⟨by decide +kernel, false, (fun h => by cases h), fun pc => zgetC_ok (zA2_c (zmc_227_0 l) (zA2_n)) pc⟩
def zcl_228_0 : List (Nat × zmI) := [(0, zm_iload 1 0), (1, zm_tsw 51 1 5 [36, 39, 42, 45, 48])]
theorem zmc_228_0 (l : Launch) : zAll l "ChessWireModel" prog_14_method_22_code 1 false (some .int) zcl_228_0 :=
  zA_c (zOk_fl zn_iload (zs_iload_n (q := 0) rfl (by decide +kernel))) <|
  zA_c (zOk_fl zn_tsw (zs_tsw (d0 := 50) (offs := #[35, 38, 41, 44, 47]) (len := 35) (by decide +kernel) (by decide) (by decide) (by decide))) <|
  zA_n
def zcl_228_1 : List (Nat × zmI) := [(36, zm_push 38 80), (38, zm_iret), (39, zm_push 41 78), (41, zm_iret), (42, zm_push 44 66), (44, zm_iret), (45, zm_push 47 82), (47, zm_iret), (48, zm_push 50 81), (50, zm_iret), (51, zm_push 53 75), (53, zm_iret)]
theorem zmc_228_1 (l : Launch) : zAll l "ChessWireModel" prog_14_method_22_code 1 false (some .int) zcl_228_1 :=
  zA_c (zOk_fl zn_push (zs_bipush (n := 80) (by decide +kernel) rfl)) <|
  zA_c (zs_iret (by decide +kernel) rfl) <|
  zA_c (zOk_fl zn_push (zs_bipush (n := 78) (by decide +kernel) rfl)) <|
  zA_c (zs_iret (by decide +kernel) rfl) <|
  zA_c (zOk_fl zn_push (zs_bipush (n := 66) (by decide +kernel) rfl)) <|
  zA_c (zs_iret (by decide +kernel) rfl) <|
  zA_c (zOk_fl zn_push (zs_bipush (n := 82) (by decide +kernel) rfl)) <|
  zA_c (zs_iret (by decide +kernel) rfl) <|
  zA_c (zOk_fl zn_push (zs_bipush (n := 81) (by decide +kernel) rfl)) <|
  zA_c (zs_iret (by decide +kernel) rfl) <|
  zA_c (zOk_fl zn_push (zs_bipush (n := 75) (by decide +kernel) rfl)) <|
  zA_c (zs_iret (by decide +kernel) rfl) <|
  zA_n
def zc_228 : Nat → zmI := zgetC [zcl_228_0, zcl_228_1]
theorem zmf_228 (l : Launch) : zMf l zc_228 228 := ⟨by decide +kernel, false, (fun h => by cases h), fun pc => zgetC_ok (zA2_c (zmc_228_0 l) (zA2_c (zmc_228_1 l) (zA2_n))) pc⟩
def zcl_229_0 : List (Nat × zmI) := [(0, zm_aload 1 0), (1, zm_getR 4 12 9), (4, zm_push 5 0), (5, zm_ald 6 100), (6, zm_ifne 9 13), (9, zm_push 10 0), (10, zm_goto 14), (13, zm_push 14 1), (14, zm_iret)]
theorem zmc_229_0 (l : Launch) : zAll l "ChessWireModel" prog_14_method_34_code 1 false (some .int) zcl_229_0 :=
  zA_c (zOk_fl zn_aload (zs_aload_n (q := 0) rfl (by decide +kernel))) <|
  zA_c (zOk_fl zn_getR (zs_getR (k := 9) rfl (by decide) (by decide +kernel) rfl (by decide +kernel) zw_1188)) <|
  zA_c (zOk_fl zn_push (zs_iconst (n := 0) (by decide +kernel) rfl)) <|
  zA_c (zOk_fl zn_ald (zs_iald (by decide +kernel))) <|
  zA_c (zOk_fl zn_ifne (zs_ifne (off := 7) (by decide +kernel) (by decide))) <|
  zA_c (zOk_fl zn_push (zs_iconst (n := 0) (by decide +kernel) rfl)) <|
  zA_c (zOk_fl zn_goto (zs_goto (off := 4) (by decide +kernel) (by decide))) <|
  zA_c (zOk_fl zn_push (zs_iconst (n := 1) (by decide +kernel) rfl)) <|
  zA_c (zs_iret (by decide +kernel) rfl) <|
  zA_n
def zc_229 : Nat → zmI := zgetC [zcl_229_0]
theorem zmf_229 (l : Launch) : zMf l zc_229 229 := ⟨by decide +kernel, false, (fun h => by cases h), fun pc => zgetC_ok (zA2_c (zmc_229_0 l) (zA2_n)) pc⟩
def zcl_230_0 : List (Nat × zmI) := [(0, zm_iload 1 1), (1, zm_push 2 (-1)), (2, zm_iclt 5 13), (5, zm_aload 6 0), (6, zm_iload 7 1), (7, zm_call 10 231 2 true 12), (10, zm_goto 15), (13, zm_push 15 (-2)), (15, zm_iret)]
theorem zmc_230_0 (l : Launch) : zAll l "ChessWireModel" prog_14_method_49_code 2 false (some .int) zcl_230_0 :=
  zA_c (zOk_fl zn_iload (zs_iload_n (q := 1) rfl (by decide +kernel))) <|
  zA_c (zOk_fl zn_push (zs_iconst (n := (-1)) (by decide +kernel) rfl)) <|
  zA_c (zOk_fl zn_iclt (zs_iclt (off := 11) (by decide +kernel) (by decide))) <|
  zA_c (zOk_fl zn_aload (zs_aload_n (q := 0) rfl (by decide +kernel))) <|
  zA_c (zOk_fl zn_iload (zs_iload_n (q := 1) rfl (by decide +kernel))) <|
  zA_c (zk_V zq_231 zw_1407 rfl (by decide +kernel)) <|
  zA_c (zOk_fl zn_goto (zs_goto (off := 5) (by decide +kernel) (by decide))) <|
  zA_c (zOk_fl zn_push (zs_bipush (n := (-2)) (by decide +kernel) rfl)) <|
  zA_c (zs_iret (by decide +kernel) rfl) <|
  zA_n
def zc_230 : Nat → zmI := zgetC [zcl_230_0]
theorem zmf_230 (l : Launch) : zMf l zc_230 230 := ⟨by decide +kernel, false, (fun h => by cases h), fun pc => zgetC_ok (zA2_c (zmc_230_0 l) (zA2_n)) pc⟩
def zcl_231_0 : List (Nat × zmI) := [(0, zm_aload 1 0), (1, zm_push 2 0), (2, zm_call 5 232 2 false 12), (5, zm_iload 6 1), (6, zm_push 7 (-1)), (7, zm_icne 10 19), (10, zm_aload 11 0), (11, zm_getR 14 12 12), (14, zm_push 15 0), (15, zm_ald 16 100), (16, zm_goto 39), (19, zm_iload 20 1), (20, zm_aload 21 0), (21, zm_getR 24 12 12), (24, zm_push 25 0), (25, zm_ald 26 100), (26, zm_icge 29 38), (29, zm_aload 30 0), (30, zm_getR 33 12 11)]
theorem zmc_231_0 (l : Launch) : zAll l "ChessWireModel" prog_14_method_48_code 2 false (some .int) zcl_231_0 :=
  zA_c (zOk_fl zn_aload (zs_aload_n (q := 0) rfl (by decide +kernel))) <|
  zA_c (zOk_fl zn_push (zs_iconst (n := 0) (by decide +kernel) rfl)) <|
  zA_c (zk_V zq_232 zw_1411 rfl (by decide +kernel)) <|
  zA_c (zOk_fl zn_iload (zs_iload_n (q := 1) rfl (by decide +kernel))) <|
  zA_c (zOk_fl zn_push (zs_iconst (n := (-1)) (by decide +kernel) rfl)) <|
  zA_c (zOk_fl zn_icne (zs_icne (off := 12) (by decide +kernel) (by decide))) <|
  zA_c (zOk_fl zn_aload (zs_aload_n (q := 0) rfl (by decide +kernel))) <|
  zA_c (zOk_fl zn_getR (zs_getR (k := 12) rfl (by decide) (by decide +kernel) rfl (by decide +kernel) zw_1191)) <|
  zA_c (zOk_fl zn_push (zs_iconst (n := 0) (by decide +kernel) rfl)) <|
  zA_c (zOk_fl zn_ald (zs_iald (by decide +kernel))) <|
  zA_c (zOk_fl zn_goto (zs_goto (off := 23) (by decide +kernel) (by decide))) <|
  zA_c (zOk_fl zn_iload (zs_iload_n (q := 1) rfl (by decide +kernel))) <|
  zA_c (zOk_fl zn_aload (zs_aload_n (q := 0) rfl (by decide +kernel))) <|
  zA_c (zOk_fl zn_getR (zs_getR (k := 12) rfl (by decide) (by decide +kernel) rfl (by decide +kernel) zw_1191)) <|
  zA_c (zOk_fl zn_push (zs_iconst (n := 0) (by decide +kernel) rfl)) <|
  zA_c (zOk_fl zn_ald (zs_iald (by decide +kernel))) <|
  zA_c (zOk_fl zn_icge (zs_icge (off := 12) (by decide +kernel) (by decide))) <|
  zA_c (zOk_fl zn_aload (zs_aload_n (q := 0) rfl (by decide +kernel))) <|
  zA_c (zOk_fl zn_getR (zs_getR (k := 11) rfl (by decide) (by decide +kernel) rfl (by decide +kernel) zw_1190)) <|
  zA_n
def zcl_231_1 : List (Nat × zmI) := [(33, zm_iload 34 1), (34, zm_ald 35 100), (35, zm_goto 39), (38, zm_push 39 (-1)), (39, zm_iret)]
theorem zmc_231_1 (l : Launch) : zAll l "ChessWireModel" prog_14_method_48_code 2 false (some .int) zcl_231_1 :=
  zA_c (zOk_fl zn_iload (zs_iload_n (q := 1) rfl (by decide +kernel))) <|
  zA_c (zOk_fl zn_ald (zs_iald (by decide +kernel))) <|
  zA_c (zOk_fl zn_goto (zs_goto (off := 4) (by decide +kernel) (by decide))) <|
  zA_c (zOk_fl zn_push (zs_iconst (n := (-1)) (by decide +kernel) rfl)) <|
  zA_c (zs_iret (by decide +kernel) rfl) <|
  zA_n
def zc_231 : Nat → zmI := zgetC [zcl_231_0, zcl_231_1]
theorem zmf_231 (l : Launch) : zMf l zc_231 231 := ⟨by decide +kernel, false, (fun h => by cases h), fun pc => zgetC_ok (zA2_c (zmc_231_0 l) (zA2_c (zmc_231_1 l) (zA2_n))) pc⟩
def zcl_232_0 : List (Nat × zmI) := [(0, zm_push 1 0), (1, zm_istore 2 2), (2, zm_push 3 0), (3, zm_istore 4 3), (4, zm_iload 5 3), (5, zm_push 7 64), (7, zm_icge 10 100), (10, zm_aload 11 0), (11, zm_getR 14 12 8), (14, zm_push 16 64), (16, zm_iload 17 1), (17, zm_bin 18 (fun x y => w32 (x * y))), (18, zm_iload 19 3), (19, zm_bin 20 (fun x y => w32 (x + y))), (20, zm_ald 21 100), (21, zm_call 24 233 1 true 99), (24, zm_aload 25 0), (25, zm_getR 28 12 9), (28, zm_iload 29 1), (29, zm_ald 30 100), (30, zm_icne 33 37)]
theorem zmc_232_0 (l : Launch) : zAll l "ChessWireModel" prog_14_method_44_code 6 false (none) zcl_232_0 :=
  zA_c (zOk_fl zn_push (zs_iconst (n := 0) (by decide +kernel) rfl)) <|
  zA_c (zOk_fl zn_istore (zs_istore_n (q := 2) rfl (by decide +kernel))) <|
  zA_c (zOk_fl zn_push (zs_iconst (n := 0) (by decide +kernel) rfl)) <|
  zA_c (zOk_fl zn_istore (zs_istore_n (q := 3) rfl (by decide +kernel))) <|
  zA_c (zOk_fl zn_iload (zs_iload_n (q := 3) rfl (by decide +kernel))) <|
  zA_c (zOk_fl zn_push (zs_bipush (n := 64) (by decide +kernel) rfl)) <|
  zA_c (zOk_fl zn_icge (zs_icge (off := 93) (by decide +kernel) (by decide))) <|
  zA_c (zOk_fl zn_aload (zs_aload_n (q := 0) rfl (by decide +kernel))) <|
  zA_c (zOk_fl zn_getR (zs_getR (k := 8) rfl (by decide) (by decide +kernel) rfl (by decide +kernel) zw_1187)) <|
  zA_c (zOk_fl zn_push (zs_bipush (n := 64) (by decide +kernel) rfl)) <|
  zA_c (zOk_fl zn_iload (zs_iload_n (q := 1) rfl (by decide +kernel))) <|
  zA_c (zOk_fl zn_bin (zs_imul (by decide +kernel))) <|
  zA_c (zOk_fl zn_iload (zs_iload_n (q := 3) rfl (by decide +kernel))) <|
  zA_c (zOk_fl zn_bin (zs_iadd (by decide +kernel))) <|
  zA_c (zOk_fl zn_ald (zs_iald (by decide +kernel))) <|
  zA_c (zk_S zq_233 zw_1415 (by decide +kernel)) <|
  zA_c (zOk_fl zn_aload (zs_aload_n (q := 0) rfl (by decide +kernel))) <|
  zA_c (zOk_fl zn_getR (zs_getR (k := 9) rfl (by decide) (by decide +kernel) rfl (by decide +kernel) zw_1188)) <|
  zA_c (zOk_fl zn_iload (zs_iload_n (q := 1) rfl (by decide +kernel))) <|
  zA_c (zOk_fl zn_ald (zs_iald (by decide +kernel))) <|
  zA_c (zOk_fl zn_icne (zs_icne (off := 7) (by decide +kernel) (by decide))) <|
  zA_n
def zcl_232_1 : List (Nat × zmI) := [(33, zm_push 34 1), (34, zm_goto 38), (37, zm_push 38 0), (38, zm_istore 40 4), (40, zm_push 41 0), (41, zm_istore 43 5), (43, zm_iload 45 5), (45, zm_push 47 64), (47, zm_icge 50 94), (50, zm_iload 52 4), (52, zm_ifeq 55 94), (55, zm_aload 56 0), (56, zm_iload 57 1), (57, zm_iload 58 3), (58, zm_iload 60 5), (60, zm_call 63 234 4 true 12), (63, zm_ifeq 66 88)]
theorem zmc_232_1 (l : Launch) : zAll l "ChessWireModel" prog_14_method_44_code 6 false (none) zcl_232_1 :=
  zA_c (zOk_fl zn_push (zs_iconst (n := 1) (by decide +kernel) rfl)) <|
  zA_c (zOk_fl zn_goto (zs_goto (off := 4) (by decide +kernel) (by decide))) <|
  zA_c (zOk_fl zn_push (zs_iconst (n := 0) (by decide +kernel) rfl)) <|
  zA_c (zOk_fl zn_istore (zs_istore (by decide +kernel))) <|
  zA_c (zOk_fl zn_push (zs_iconst (n := 0) (by decide +kernel) rfl)) <|
  zA_c (zOk_fl zn_istore (zs_istore (by decide +kernel))) <|
  zA_c (zOk_fl zn_iload (zs_iload (by decide +kernel))) <|
  zA_c (zOk_fl zn_push (zs_bipush (n := 64) (by decide +kernel) rfl)) <|
  zA_c (zOk_fl zn_icge (zs_icge (off := 47) (by decide +kernel) (by decide))) <|
  zA_c (zOk_fl zn_iload (zs_iload (by decide +kernel))) <|
  zA_c (zOk_fl zn_ifeq (zs_ifeq (off := 42) (by decide +kernel) (by decide))) <|
  zA_c (zOk_fl zn_aload (zs_aload_n (q := 0) rfl (by decide +kernel))) <|
  zA_c (zOk_fl zn_iload (zs_iload_n (q := 1) rfl (by decide +kernel))) <|
  zA_c (zOk_fl zn_iload (zs_iload_n (q := 3) rfl (by decide +kernel))) <|
  zA_c (zOk_fl zn_iload (zs_iload (by decide +kernel))) <|
  zA_c (zk_V zq_234 zw_1418 rfl (by decide +kernel)) <|
  zA_c (zOk_fl zn_ifeq (zs_ifeq (off := 25) (by decide +kernel) (by decide))) <|
  zA_n
def zcl_232_2 : List (Nat × zmI) := [(66, zm_aload 67 0), (67, zm_getR 70 12 11), (70, zm_push 73 512), (73, zm_iload 74 1), (74, zm_bin 75 (fun x y => w32 (x * y))), (75, zm_iload 76 2), (76, zm_bin 77 (fun x y => w32 (x + y))), (77, zm_push 79 64), (79, zm_iload 80 3), (80, zm_bin 81 (fun x y => w32 (x * y))), (81, zm_iload 83 5), (83, zm_bin 84 (fun x y => w32 (x + y))), (84, zm_iast 85), (85, zm_iinc 88 2 1), (88, zm_iinc 91 5 1), (91, zm_goto 43), (94, zm_iinc 97 3 1)]
theorem zmc_232_2 (l : Launch) : zAll l "ChessWireModel" prog_14_method_44_code 6 false (none) zcl_232_2 :=
  zA_c (zOk_fl zn_aload (zs_aload_n (q := 0) rfl (by decide +kernel))) <|
  zA_c (zOk_fl zn_getR (zs_getR (k := 11) rfl (by decide) (by decide +kernel) rfl (by decide +kernel) zw_1190)) <|
  zA_c (zOk_fl zn_push (zs_sipush (n := 512) (by decide +kernel) rfl)) <|
  zA_c (zOk_fl zn_iload (zs_iload_n (q := 1) rfl (by decide +kernel))) <|
  zA_c (zOk_fl zn_bin (zs_imul (by decide +kernel))) <|
  zA_c (zOk_fl zn_iload (zs_iload_n (q := 2) rfl (by decide +kernel))) <|
  zA_c (zOk_fl zn_bin (zs_iadd (by decide +kernel))) <|
  zA_c (zOk_fl zn_push (zs_bipush (n := 64) (by decide +kernel) rfl)) <|
  zA_c (zOk_fl zn_iload (zs_iload_n (q := 3) rfl (by decide +kernel))) <|
  zA_c (zOk_fl zn_bin (zs_imul (by decide +kernel))) <|
  zA_c (zOk_fl zn_iload (zs_iload (by decide +kernel))) <|
  zA_c (zOk_fl zn_bin (zs_iadd (by decide +kernel))) <|
  zA_c (zOk_sn zn_iast (zs_iast (by decide +kernel))) <|
  zA_c (zOk_fl zn_iinc (zs_iinc rfl (by decide +kernel))) <|
  zA_c (zOk_fl zn_iinc (zs_iinc rfl (by decide +kernel))) <|
  zA_c (zOk_fl zn_goto (zs_goto (off := (-48)) (by decide +kernel) (by decide))) <|
  zA_c (zOk_fl zn_iinc (zs_iinc rfl (by decide +kernel))) <|
  zA_n
def zcl_232_3 : List (Nat × zmI) := [(97, zm_goto 4), (100, zm_aload 101 0), (101, zm_getR 104 12 12), (104, zm_iload 105 1), (105, zm_iload 106 2), (106, zm_iast 107), (107, zm_vret)]
theorem zmc_232_3 (l : Launch) : zAll l "ChessWireModel" prog_14_method_44_code 6 false (none) zcl_232_3 :=
  zA_c (zOk_fl zn_goto (zs_goto (off := (-93)) (by decide +kernel) (by decide))) <|
  zA_c (zOk_fl zn_aload (zs_aload_n (q := 0) rfl (by decide +kernel))) <|
  zA_c (zOk_fl zn_getR (zs_getR (k := 12) rfl (by decide) (by decide +kernel) rfl (by decide +kernel) zw_1191)) <|
  zA_c (zOk_fl zn_iload (zs_iload_n (q := 1) rfl (by decide +kernel))) <|
  zA_c (zOk_fl zn_iload (zs_iload_n (q := 2) rfl (by decide +kernel))) <|
  zA_c (zOk_sn zn_iast (zs_iast (by decide +kernel))) <|
  zA_c (zs_vret (by decide +kernel) rfl) <|
  zA_n
def zc_232 : Nat → zmI := zgetC [zcl_232_0, zcl_232_1, zcl_232_2, zcl_232_3]
theorem zmf_232 (l : Launch) : zMf l zc_232 232 := ⟨by decide +kernel, false, (fun h => by cases h), fun pc => zgetC_ok (zA2_c (zmc_232_0 l) (zA2_c (zmc_232_1 l) (zA2_c (zmc_232_2 l) (zA2_c (zmc_232_3 l) (zA2_n))))) pc⟩
def zcl_233_0 : List (Nat × zmI) := [(0, zm_iload 1 0), (1, zm_ifne 4 8), (4, zm_push 5 (-1)), (5, zm_goto 20), (8, zm_iload 9 0), (9, zm_push 11 8), (11, zm_icle 14 19), (14, zm_push 16 8), (16, zm_goto 20), (19, zm_push 20 0), (20, zm_iret)]
theorem zmc_233_0 (l : Launch) : zAll l "ChessWireModel" prog_14_method_38_code 1 false (some .int) zcl_233_0 :=
  zA_c (zOk_fl zn_iload (zs_iload_n (q := 0) rfl (by decide +kernel))) <|
  zA_c (zOk_fl zn_ifne (zs_ifne (off := 7) (by decide +kernel) (by decide))) <|
  zA_c (zOk_fl zn_push (zs_iconst (n := (-1)) (by decide +kernel) rfl)) <|
  zA_c (zOk_fl zn_goto (zs_goto (off := 15) (by decide +kernel) (by decide))) <|
  zA_c (zOk_fl zn_iload (zs_iload_n (q := 0) rfl (by decide +kernel))) <|
  zA_c (zOk_fl zn_push (zs_bipush (n := 8) (by decide +kernel) rfl)) <|
  zA_c (zOk_fl zn_icle (zs_icle (off := 8) (by decide +kernel) (by decide))) <|
  zA_c (zOk_fl zn_push (zs_bipush (n := 8) (by decide +kernel) rfl)) <|
  zA_c (zOk_fl zn_goto (zs_goto (off := 4) (by decide +kernel) (by decide))) <|
  zA_c (zOk_fl zn_push (zs_iconst (n := 0) (by decide +kernel) rfl)) <|
  zA_c (zs_iret (by decide +kernel) rfl) <|
  zA_n
def zc_233 : Nat → zmI := zgetC [zcl_233_0]
theorem zmf_233 (l : Launch) : zMf l zc_233 233 := ⟨by decide +kernel, false, (fun h => by cases h), fun pc => zgetC_ok (zA2_c (zmc_233_0 l) (zA2_n)) pc⟩
def zcl_234_0 : List (Nat × zmI) := [(0, zm_aload 1 0), (1, zm_iload 2 1), (2, zm_iload 3 2), (3, zm_iload 4 3), (4, zm_call 7 235 4 true 12), (7, zm_ifne 10 12), (10, zm_push 11 0), (11, zm_zret), (12, zm_aload 13 0), (13, zm_getR 16 12 8), (16, zm_push 18 64), (18, zm_iload 19 1), (19, zm_bin 20 (fun x y => w32 (x * y))), (20, zm_iload 21 2), (21, zm_bin 22 (fun x y => w32 (x + y))), (22, zm_ald 23 100), (23, zm_istore 25 4), (25, zm_aload 26 0), (26, zm_getR 29 12 8), (29, zm_push 31 64), (31, zm_iload 32 1)]
theorem zmc_234_0 (l : Launch) : zAll l "ChessWireModel" prog_14_method_43_code 7 false (some .boolean) zcl_234_0 :=
  zA_c (zOk_fl zn_aload (zs_aload_n (q := 0) rfl (by decide +kernel))) <|
  zA_c (zOk_fl zn_iload (zs_iload_n (q := 1) rfl (by decide +kernel))) <|
  zA_c (zOk_fl zn_iload (zs_iload_n (q := 2) rfl (by decide +kernel))) <|
  zA_c (zOk_fl zn_iload (zs_iload_n (q := 3) rfl (by decide +kernel))) <|
  zA_c (zk_V zq_235 zw_1422 rfl (by decide +kernel)) <|
  zA_c (zOk_fl zn_ifne (zs_ifne (off := 5) (by decide +kernel) (by decide))) <|
  zA_c (zOk_fl zn_push (zs_iconst (n := 0) (by decide +kernel) rfl)) <|
  zA_c (zs_zret (by decide +kernel) rfl) <|
  zA_c (zOk_fl zn_aload (zs_aload_n (q := 0) rfl (by decide +kernel))) <|
  zA_c (zOk_fl zn_getR (zs_getR (k := 8) rfl (by decide) (by decide +kernel) rfl (by decide +kernel) zw_1187)) <|
  zA_c (zOk_fl zn_push (zs_bipush (n := 64) (by decide +kernel) rfl)) <|
  zA_c (zOk_fl zn_iload (zs_iload_n (q := 1) rfl (by decide +kernel))) <|
  zA_c (zOk_fl zn_bin (zs_imul (by decide +kernel))) <|
  zA_c (zOk_fl zn_iload (zs_iload_n (q := 2) rfl (by decide +kernel))) <|
  zA_c (zOk_fl zn_bin (zs_iadd (by decide +kernel))) <|
  zA_c (zOk_fl zn_ald (zs_iald (by decide +kernel))) <|
  zA_c (zOk_fl zn_istore (zs_istore (by decide +kernel))) <|
  zA_c (zOk_fl zn_aload (zs_aload_n (q := 0) rfl (by decide +kernel))) <|
  zA_c (zOk_fl zn_getR (zs_getR (k := 8) rfl (by decide) (by decide +kernel) rfl (by decide +kernel) zw_1187)) <|
  zA_c (zOk_fl zn_push (zs_bipush (n := 64) (by decide +kernel) rfl)) <|
  zA_c (zOk_fl zn_iload (zs_iload_n (q := 1) rfl (by decide +kernel))) <|
  zA_n
def zcl_234_1 : List (Nat × zmI) := [(32, zm_bin 33 (fun x y => w32 (x * y))), (33, zm_iload 34 3), (34, zm_bin 35 (fun x y => w32 (x + y))), (35, zm_ald 36 100), (36, zm_istore 38 5), (38, zm_aload 39 0), (39, zm_iload 40 1), (40, zm_iload 41 2), (41, zm_iload 42 3), (42, zm_call 45 241 4 false 12), (45, zm_aload 46 0), (46, zm_iload 47 1), (47, zm_aload 48 0), (48, zm_getR 51 12 9), (51, zm_iload 52 1), (52, zm_ald 53 100), (53, zm_call 56 242 3 true 12), (56, zm_ifne 59 63), (59, zm_push 60 1), (60, zm_goto 64), (63, zm_push 64 0)]
theorem zmc_234_1 (l : Launch) : zAll l "ChessWireModel" prog_14_method_43_code 7 false (some .boolean) zcl_234_1 :=
  zA_c (zOk_fl zn_bin (zs_imul (by decide +kernel))) <|
  zA_c (zOk_fl zn_iload (zs_iload_n (q := 3) rfl (by decide +kernel))) <|
  zA_c (zOk_fl zn_bin (zs_iadd (by decide +kernel))) <|
  zA_c (zOk_fl zn_ald (zs_iald (by decide +kernel))) <|
  zA_c (zOk_fl zn_istore (zs_istore (by decide +kernel))) <|
  zA_c (zOk_fl zn_aload (zs_aload_n (q := 0) rfl (by decide +kernel))) <|
  zA_c (zOk_fl zn_iload (zs_iload_n (q := 1) rfl (by decide +kernel))) <|
  zA_c (zOk_fl zn_iload (zs_iload_n (q := 2) rfl (by decide +kernel))) <|
  zA_c (zOk_fl zn_iload (zs_iload_n (q := 3) rfl (by decide +kernel))) <|
  zA_c (zk_V zq_241 zw_1444 rfl (by decide +kernel)) <|
  zA_c (zOk_fl zn_aload (zs_aload_n (q := 0) rfl (by decide +kernel))) <|
  zA_c (zOk_fl zn_iload (zs_iload_n (q := 1) rfl (by decide +kernel))) <|
  zA_c (zOk_fl zn_aload (zs_aload_n (q := 0) rfl (by decide +kernel))) <|
  zA_c (zOk_fl zn_getR (zs_getR (k := 9) rfl (by decide) (by decide +kernel) rfl (by decide +kernel) zw_1188)) <|
  zA_c (zOk_fl zn_iload (zs_iload_n (q := 1) rfl (by decide +kernel))) <|
  zA_c (zOk_fl zn_ald (zs_iald (by decide +kernel))) <|
  zA_c (zk_V zq_242 zw_1448 rfl (by decide +kernel)) <|
  zA_c (zOk_fl zn_ifne (zs_ifne (off := 7) (by decide +kernel) (by decide))) <|
  zA_c (zOk_fl zn_push (zs_iconst (n := 1) (by decide +kernel) rfl)) <|
  zA_c (zOk_fl zn_goto (zs_goto (off := 4) (by decide +kernel) (by decide))) <|
  zA_c (zOk_fl zn_push (zs_iconst (n := 0) (by decide +kernel) rfl)) <|
  zA_n
def zcl_234_2 : List (Nat × zmI) := [(64, zm_istore 66 6), (66, zm_aload 67 0), (67, zm_getR 70 12 8), (70, zm_push 72 64), (72, zm_iload 73 1), (73, zm_bin 74 (fun x y => w32 (x * y))), (74, zm_iload 75 2), (75, zm_bin 76 (fun x y => w32 (x + y))), (76, zm_iload 78 4), (78, zm_iast 79), (79, zm_aload 80 0), (80, zm_getR 83 12 8), (83, zm_push 85 64), (85, zm_iload 86 1), (86, zm_bin 87 (fun x y => w32 (x * y))), (87, zm_iload 88 3), (88, zm_bin 89 (fun x y => w32 (x + y))), (89, zm_iload 91 5), (91, zm_iast 92), (92, zm_iload 94 6), (94, zm_zret)]
theorem zmc_234_2 (l : Launch) : zAll l "ChessWireModel" prog_14_method_43_code 7 false (some .boolean) zcl_234_2 :=
  zA_c (zOk_fl zn_istore (zs_istore (by decide +kernel))) <|
  zA_c (zOk_fl zn_aload (zs_aload_n (q := 0) rfl (by decide +kernel))) <|
  zA_c (zOk_fl zn_getR (zs_getR (k := 8) rfl (by decide) (by decide +kernel) rfl (by decide +kernel) zw_1187)) <|
  zA_c (zOk_fl zn_push (zs_bipush (n := 64) (by decide +kernel) rfl)) <|
  zA_c (zOk_fl zn_iload (zs_iload_n (q := 1) rfl (by decide +kernel))) <|
  zA_c (zOk_fl zn_bin (zs_imul (by decide +kernel))) <|
  zA_c (zOk_fl zn_iload (zs_iload_n (q := 2) rfl (by decide +kernel))) <|
  zA_c (zOk_fl zn_bin (zs_iadd (by decide +kernel))) <|
  zA_c (zOk_fl zn_iload (zs_iload (by decide +kernel))) <|
  zA_c (zOk_sn zn_iast (zs_iast (by decide +kernel))) <|
  zA_c (zOk_fl zn_aload (zs_aload_n (q := 0) rfl (by decide +kernel))) <|
  zA_c (zOk_fl zn_getR (zs_getR (k := 8) rfl (by decide) (by decide +kernel) rfl (by decide +kernel) zw_1187)) <|
  zA_c (zOk_fl zn_push (zs_bipush (n := 64) (by decide +kernel) rfl)) <|
  zA_c (zOk_fl zn_iload (zs_iload_n (q := 1) rfl (by decide +kernel))) <|
  zA_c (zOk_fl zn_bin (zs_imul (by decide +kernel))) <|
  zA_c (zOk_fl zn_iload (zs_iload_n (q := 3) rfl (by decide +kernel))) <|
  zA_c (zOk_fl zn_bin (zs_iadd (by decide +kernel))) <|
  zA_c (zOk_fl zn_iload (zs_iload (by decide +kernel))) <|
  zA_c (zOk_sn zn_iast (zs_iast (by decide +kernel))) <|
  zA_c (zOk_fl zn_iload (zs_iload (by decide +kernel))) <|
  zA_c (zs_zret (by decide +kernel) rfl) <|
  zA_n
def zc_234 : Nat → zmI := zgetC [zcl_234_0, zcl_234_1, zcl_234_2]
theorem zmf_234 (l : Launch) : zMf l zc_234 234 := ⟨by decide +kernel, false, (fun h => by cases h), fun pc => zgetC_ok (zA2_c (zmc_234_0 l) (zA2_c (zmc_234_1 l) (zA2_c (zmc_234_2 l) (zA2_n)))) pc⟩
def zcl_235_0 : List (Nat × zmI) := [(0, zm_aload 1 0), (1, zm_getR 4 12 8), (4, zm_push 6 64), (6, zm_iload 7 1), (7, zm_bin 8 (fun x y => w32 (x * y))), (8, zm_iload 9 2), (9, zm_bin 10 (fun x y => w32 (x + y))), (10, zm_ald 11 100), (11, zm_istore 13 4), (13, zm_aload 14 0), (14, zm_getR 17 12 8), (17, zm_push 19 64), (19, zm_iload 20 1), (20, zm_bin 21 (fun x y => w32 (x * y))), (21, zm_iload 22 3), (22, zm_bin 23 (fun x y => w32 (x + y))), (23, zm_ald 24 100), (24, zm_call 27 233 1 true 99), (27, zm_istore 29 5), (29, zm_iload 31 4), (31, zm_call 34 233 1 true 99)]
theorem zmc_235_0 (l : Launch) : zAll l "ChessWireModel" prog_14_method_40_code 6 false (some .boolean) zcl_235_0 :=
  zA_c (zOk_fl zn_aload (zs_aload_n (q := 0) rfl (by decide +kernel))) <|
  zA_c (zOk_fl zn_getR (zs_getR (k := 8) rfl (by decide) (by decide +kernel) rfl (by decide +kernel) zw_1187)) <|
  zA_c (zOk_fl zn_push (zs_bipush (n := 64) (by decide +kernel) rfl)) <|
  zA_c (zOk_fl zn_iload (zs_iload_n (q := 1) rfl (by decide +kernel))) <|
  zA_c (zOk_fl zn_bin (zs_imul (by decide +kernel))) <|
  zA_c (zOk_fl zn_iload (zs_iload_n (q := 2) rfl (by decide +kernel))) <|
  zA_c (zOk_fl zn_bin (zs_iadd (by decide +kernel))) <|
  zA_c (zOk_fl zn_ald (zs_iald (by decide +kernel))) <|
  zA_c (zOk_fl zn_istore (zs_istore (by decide +kernel))) <|
  zA_c (zOk_fl zn_aload (zs_aload_n (q := 0) rfl (by decide +kernel))) <|
  zA_c (zOk_fl zn_getR (zs_getR (k := 8) rfl (by decide) (by decide +kernel) rfl (by decide +kernel) zw_1187)) <|
  zA_c (zOk_fl zn_push (zs_bipush (n := 64) (by decide +kernel) rfl)) <|
  zA_c (zOk_fl zn_iload (zs_iload_n (q := 1) rfl (by decide +kernel))) <|
  zA_c (zOk_fl zn_bin (zs_imul (by decide +kernel))) <|
  zA_c (zOk_fl zn_iload (zs_iload_n (q := 3) rfl (by decide +kernel))) <|
  zA_c (zOk_fl zn_bin (zs_iadd (by decide +kernel))) <|
  zA_c (zOk_fl zn_ald (zs_iald (by decide +kernel))) <|
  zA_c (zk_S zq_233 zw_1415 (by decide +kernel)) <|
  zA_c (zOk_fl zn_istore (zs_istore (by decide +kernel))) <|
  zA_c (zOk_fl zn_iload (zs_iload (by decide +kernel))) <|
  zA_c (zk_S zq_233 zw_1415 (by decide +kernel)) <|
  zA_n
def zcl_235_1 : List (Nat × zmI) := [(34, zm_aload 35 0), (35, zm_getR 38 12 9), (38, zm_iload 39 1), (39, zm_ald 40 100), (40, zm_icne 43 54), (43, zm_iload 45 5), (45, zm_aload 46 0), (46, zm_getR 49 12 9), (49, zm_iload 50 1), (50, zm_ald 51 100), (51, zm_icne 54 56), (54, zm_push 55 0), (55, zm_zret), (56, zm_iload 58 4), (58, zm_push 60 8), (60, zm_quo 61 z_rem), (61, zm_push 62 1), (62, zm_icne 65 89)]
theorem zmc_235_1 (l : Launch) : zAll l "ChessWireModel" prog_14_method_40_code 6 false (some .boolean) zcl_235_1 :=
  zA_c (zOk_fl zn_aload (zs_aload_n (q := 0) rfl (by decide +kernel))) <|
  zA_c (zOk_fl zn_getR (zs_getR (k := 9) rfl (by decide) (by decide +kernel) rfl (by decide +kernel) zw_1188)) <|
  zA_c (zOk_fl zn_iload (zs_iload_n (q := 1) rfl (by decide +kernel))) <|
  zA_c (zOk_fl zn_ald (zs_iald (by decide +kernel))) <|
  zA_c (zOk_fl zn_icne (zs_icne (off := 14) (by decide +kernel) (by decide))) <|
  zA_c (zOk_fl zn_iload (zs_iload (by decide +kernel))) <|
  zA_c (zOk_fl zn_aload (zs_aload_n (q := 0) rfl (by decide +kernel))) <|
  zA_c (zOk_fl zn_getR (zs_getR (k := 9) rfl (by decide) (by decide +kernel) rfl (by decide +kernel) zw_1188)) <|
  zA_c (zOk_fl zn_iload (zs_iload_n (q := 1) rfl (by decide +kernel))) <|
  zA_c (zOk_fl zn_ald (zs_iald (by decide +kernel))) <|
  zA_c (zOk_fl zn_icne (zs_icne (off := 5) (by decide +kernel) (by decide))) <|
  zA_c (zOk_fl zn_push (zs_iconst (n := 0) (by decide +kernel) rfl)) <|
  zA_c (zs_zret (by decide +kernel) rfl) <|
  zA_c (zOk_fl zn_iload (zs_iload (by decide +kernel))) <|
  zA_c (zOk_fl zn_push (zs_bipush (n := 8) (by decide +kernel) rfl)) <|
  zA_c (zOk_fl zn_quo (zs_irem (by decide +kernel))) <|
  zA_c (zOk_fl zn_push (zs_iconst (n := 1) (by decide +kernel) rfl)) <|
  zA_c (zOk_fl zn_icne (zs_icne (off := 27) (by decide +kernel) (by decide))) <|
  zA_n
def zcl_235_2 : List (Nat × zmI) := [(65, zm_iload 67 5), (67, zm_push 68 (-1)), (68, zm_icne 71 81), (71, zm_aload 72 0), (72, zm_iload 73 1), (73, zm_iload 74 2), (74, zm_iload 75 3), (75, zm_call 78 236 4 true 12), (78, zm_goto 88), (81, zm_aload 82 0), (82, zm_iload 83 1), (83, zm_iload 84 2), (84, zm_iload 85 3), (85, zm_call 88 237 4 true 12), (88, zm_zret), (89, zm_aload 90 0), (90, zm_iload 91 1), (91, zm_iload 92 2), (92, zm_iload 93 3), (93, zm_call 96 237 4 true 12)]
theorem zmc_235_2 (l : Launch) : zAll l "ChessWireModel" prog_14_method_40_code 6 false (some .boolean) zcl_235_2 :=
  zA_c (zOk_fl zn_iload (zs_iload (by decide +kernel))) <|
  zA_c (zOk_fl zn_push (zs_iconst (n := (-1)) (by decide +kernel) rfl)) <|
  zA_c (zOk_fl zn_icne (zs_icne (off := 13) (by decide +kernel) (by decide))) <|
  zA_c (zOk_fl zn_aload (zs_aload_n (q := 0) rfl (by decide +kernel))) <|
  zA_c (zOk_fl zn_iload (zs_iload_n (q := 1) rfl (by decide +kernel))) <|
  zA_c (zOk_fl zn_iload (zs_iload_n (q := 2) rfl (by decide +kernel))) <|
  zA_c (zOk_fl zn_iload (zs_iload_n (q := 3) rfl (by decide +kernel))) <|
  zA_c (zk_V zq_236 zw_1426 rfl (by decide +kernel)) <|
  zA_c (zOk_fl zn_goto (zs_goto (off := 10) (by decide +kernel) (by decide))) <|
  zA_c (zOk_fl zn_aload (zs_aload_n (q := 0) rfl (by decide +kernel))) <|
  zA_c (zOk_fl zn_iload (zs_iload_n (q := 1) rfl (by decide +kernel))) <|
  zA_c (zOk_fl zn_iload (zs_iload_n (q := 2) rfl (by decide +kernel))) <|
  zA_c (zOk_fl zn_iload (zs_iload_n (q := 3) rfl (by decide +kernel))) <|
  zA_c (zk_V zq_237 zw_1430 rfl (by decide +kernel)) <|
  zA_c (zs_zret (by decide +kernel) rfl) <|
  zA_c (zOk_fl zn_aload (zs_aload_n (q := 0) rfl (by decide +kernel))) <|
  zA_c (zOk_fl zn_iload (zs_iload_n (q := 1) rfl (by decide +kernel))) <|
  zA_c (zOk_fl zn_iload (zs_iload_n (q := 2) rfl (by decide +kernel))) <|
  zA_c (zOk_fl zn_iload (zs_iload_n (q := 3) rfl (by decide +kernel))) <|
  zA_c (zk_V zq_237 zw_1430 rfl (by decide +kernel)) <|
  zA_n
def zcl_235_3 : List (Nat × zmI) := [(96, zm_zret)]
theorem zmc_235_3 (l : Launch) : zAll l "ChessWireModel" prog_14_method_40_code 6 false (some .boolean) zcl_235_3 :=
  zA_c (zs_zret (by decide +kernel) rfl) <|
  zA_n
def zc_235 : Nat → zmI := zgetC [zcl_235_0, zcl_235_1, zcl_235_2, zcl_235_3]
theorem zmf_235 (l : Launch) : zMf l zc_235 235 := ⟨by decide +kernel, false, (fun h => by cases h), fun pc => zgetC_ok (zA2_c (zmc_235_0 l) (zA2_c (zmc_235_1 l) (zA2_c (zmc_235_2 l) (zA2_c (zmc_235_3 l) (zA2_n))))) pc⟩
def zcl_236_0 : List (Nat × zmI) := [(0, zm_aload 1 0), (1, zm_getR 4 12 8), (4, zm_push 6 64), (6, zm_iload 7 1), (7, zm_bin 8 (fun x y => w32 (x * y))), (8, zm_iload 9 2), (9, zm_bin 10 (fun x y => w32 (x + y))), (10, zm_ald 11 100), (11, zm_istore 13 4), (13, zm_iload 15 4), (15, zm_push 17 8), (17, zm_icle 20 26), (20, zm_iload 21 2), (21, zm_iload 22 3), (22, zm_bin 23 (fun x y => w32 (x - y))), (23, zm_goto 29), (26, zm_iload 27 3), (27, zm_iload 28 2), (28, zm_bin 29 (fun x y => w32 (x - y))), (29, zm_istore 31 5), (31, zm_iload 33 4)]
theorem zmc_236_0 (l : Launch) : zAll l "ChessWireModel" prog_14_method_39_code 8 false (some .boolean) zcl_236_0 :=
  zA_c (zOk_fl zn_aload (zs_aload_n (q := 0) rfl (by decide +kernel))) <|
  zA_c (zOk_fl zn_getR (zs_getR (k := 8) rfl (by decide) (by decide +kernel) rfl (by decide +kernel) zw_1187)) <|
  zA_c (zOk_fl zn_push (zs_bipush (n := 64) (by decide +kernel) rfl)) <|
  zA_c (zOk_fl zn_iload (zs_iload_n (q := 1) rfl (by decide +kernel))) <|
  zA_c (zOk_fl zn_bin (zs_imul (by decide +kernel))) <|
  zA_c (zOk_fl zn_iload (zs_iload_n (q := 2) rfl (by decide +kernel))) <|
  zA_c (zOk_fl zn_bin (zs_iadd (by decide +kernel))) <|
  zA_c (zOk_fl zn_ald (zs_iald (by decide +kernel))) <|
  zA_c (zOk_fl zn_istore (zs_istore (by decide +kernel))) <|
  zA_c (zOk_fl zn_iload (zs_iload (by decide +kernel))) <|
  zA_c (zOk_fl zn_push (zs_bipush (n := 8) (by decide +kernel) rfl)) <|
  zA_c (zOk_fl zn_icle (zs_icle (off := 9) (by decide +kernel) (by decide))) <|
  zA_c (zOk_fl zn_iload (zs_iload_n (q := 2) rfl (by decide +kernel))) <|
  zA_c (zOk_fl zn_iload (zs_iload_n (q := 3) rfl (by decide +kernel))) <|
  zA_c (zOk_fl zn_bin (zs_isub (by decide +kernel))) <|
  zA_c (zOk_fl zn_goto (zs_goto (off := 6) (by decide +kernel) (by decide))) <|
  zA_c (zOk_fl zn_iload (zs_iload_n (q := 3) rfl (by decide +kernel))) <|
  zA_c (zOk_fl zn_iload (zs_iload_n (q := 2) rfl (by decide +kernel))) <|
  zA_c (zOk_fl zn_bin (zs_isub (by decide +kernel))) <|
  zA_c (zOk_fl zn_istore (zs_istore (by decide +kernel))) <|
  zA_c (zOk_fl zn_iload (zs_iload (by decide +kernel))) <|
  zA_n
def zcl_236_1 : List (Nat × zmI) := [(33, zm_push 35 8), (35, zm_icle 38 48), (38, zm_push 40 7), (40, zm_iload 41 2), (41, zm_push 43 8), (43, zm_quo 44 z_div), (44, zm_bin 45 (fun x y => w32 (x - y))), (45, zm_goto 52), (48, zm_iload 49 2), (49, zm_push 51 8), (51, zm_quo 52 z_div), (52, zm_istore 54 6), (54, zm_iload 56 5), (56, zm_push 58 8), (58, zm_icne 61 79), (61, zm_aload 62 0), (62, zm_getR 65 12 8)]
theorem zmc_236_1 (l : Launch) : zAll l "ChessWireModel" prog_14_method_39_code 8 false (some .boolean) zcl_236_1 :=
  zA_c (zOk_fl zn_push (zs_bipush (n := 8) (by decide +kernel) rfl)) <|
  zA_c (zOk_fl zn_icle (zs_icle (off := 13) (by decide +kernel) (by decide))) <|
  zA_c (zOk_fl zn_push (zs_bipush (n := 7) (by decide +kernel) rfl)) <|
  zA_c (zOk_fl zn_iload (zs_iload_n (q := 2) rfl (by decide +kernel))) <|
  zA_c (zOk_fl zn_push (zs_bipush (n := 8) (by decide +kernel) rfl)) <|
  zA_c (zOk_fl zn_quo (zs_idiv (by decide +kernel))) <|
  zA_c (zOk_fl zn_bin (zs_isub (by decide +kernel))) <|
  zA_c (zOk_fl zn_goto (zs_goto (off := 7) (by decide +kernel) (by decide))) <|
  zA_c (zOk_fl zn_iload (zs_iload_n (q := 2) rfl (by decide +kernel))) <|
  zA_c (zOk_fl zn_push (zs_bipush (n := 8) (by decide +kernel) rfl)) <|
  zA_c (zOk_fl zn_quo (zs_idiv (by decide +kernel))) <|
  zA_c (zOk_fl zn_istore (zs_istore (by decide +kernel))) <|
  zA_c (zOk_fl zn_iload (zs_iload (by decide +kernel))) <|
  zA_c (zOk_fl zn_push (zs_bipush (n := 8) (by decide +kernel) rfl)) <|
  zA_c (zOk_fl zn_icne (zs_icne (off := 21) (by decide +kernel) (by decide))) <|
  zA_c (zOk_fl zn_aload (zs_aload_n (q := 0) rfl (by decide +kernel))) <|
  zA_c (zOk_fl zn_getR (zs_getR (k := 8) rfl (by decide) (by decide +kernel) rfl (by decide +kernel) zw_1187)) <|
  zA_n
def zcl_236_2 : List (Nat × zmI) := [(65, zm_push 67 64), (67, zm_iload 68 1), (68, zm_bin 69 (fun x y => w32 (x * y))), (69, zm_iload 70 3), (70, zm_bin 71 (fun x y => w32 (x + y))), (71, zm_ald 72 100), (72, zm_ifne 75 79), (75, zm_push 76 1), (76, zm_goto 80), (79, zm_push 80 0), (80, zm_istore 82 7), (82, zm_iload 84 7), (84, zm_ifne 87 132), (87, zm_iload 89 5), (89, zm_push 91 16), (91, zm_icne 94 136), (94, zm_iload 96 6)]
theorem zmc_236_2 (l : Launch) : zAll l "ChessWireModel" prog_14_method_39_code 8 false (some .boolean) zcl_236_2 :=
  zA_c (zOk_fl zn_push (zs_bipush (n := 64) (by decide +kernel) rfl)) <|
  zA_c (zOk_fl zn_iload (zs_iload_n (q := 1) rfl (by decide +kernel))) <|
  zA_c (zOk_fl zn_bin (zs_imul (by decide +kernel))) <|
  zA_c (zOk_fl zn_iload (zs_iload_n (q := 3) rfl (by decide +kernel))) <|
  zA_c (zOk_fl zn_bin (zs_iadd (by decide +kernel))) <|
  zA_c (zOk_fl zn_ald (zs_iald (by decide +kernel))) <|
  zA_c (zOk_fl zn_ifne (zs_ifne (off := 7) (by decide +kernel) (by decide))) <|
  zA_c (zOk_fl zn_push (zs_iconst (n := 1) (by decide +kernel) rfl)) <|
  zA_c (zOk_fl zn_goto (zs_goto (off := 4) (by decide +kernel) (by decide))) <|
  zA_c (zOk_fl zn_push (zs_iconst (n := 0) (by decide +kernel) rfl)) <|
  zA_c (zOk_fl zn_istore (zs_istore (by decide +kernel))) <|
  zA_c (zOk_fl zn_iload (zs_iload (by decide +kernel))) <|
  zA_c (zOk_fl zn_ifne (zs_ifne (off := 48) (by decide +kernel) (by decide))) <|
  zA_c (zOk_fl zn_iload (zs_iload (by decide +kernel))) <|
  zA_c (zOk_fl zn_push (zs_bipush (n := 16) (by decide +kernel) rfl)) <|
  zA_c (zOk_fl zn_icne (zs_icne (off := 45) (by decide +kernel) (by decide))) <|
  zA_c (zOk_fl zn_iload (zs_iload (by decide +kernel))) <|
  zA_n
def zcl_236_3 : List (Nat × zmI) := [(96, zm_push 97 1), (97, zm_icne 100 136), (100, zm_aload 101 0), (101, zm_getR 104 12 8), (104, zm_push 106 64), (106, zm_iload 107 1), (107, zm_bin 108 (fun x y => w32 (x * y))), (108, zm_iload 109 3), (109, zm_bin 110 (fun x y => w32 (x + y))), (110, zm_ald 111 100), (111, zm_ifne 114 136), (114, zm_aload 115 0), (115, zm_getR 118 12 8), (118, zm_push 120 64), (120, zm_iload 121 1), (121, zm_bin 122 (fun x y => w32 (x * y))), (122, zm_iload 123 2), (123, zm_iload 124 3), (124, zm_bin 125 (fun x y => w32 (x + y))), (125, zm_push 126 2), (126, zm_quo 127 z_div), (127, zm_bin 128 (fun x y => w32 (x + y)))]
theorem zmc_236_3 (l : Launch) : zAll l "ChessWireModel" prog_14_method_39_code 8 false (some .boolean) zcl_236_3 :=
  zA_c (zOk_fl zn_push (zs_iconst (n := 1) (by decide +kernel) rfl)) <|
  zA_c (zOk_fl zn_icne (zs_icne (off := 39) (by decide +kernel) (by decide))) <|
  zA_c (zOk_fl zn_aload (zs_aload_n (q := 0) rfl (by decide +kernel))) <|
  zA_c (zOk_fl zn_getR (zs_getR (k := 8) rfl (by decide) (by decide +kernel) rfl (by decide +kernel) zw_1187)) <|
  zA_c (zOk_fl zn_push (zs_bipush (n := 64) (by decide +kernel) rfl)) <|
  zA_c (zOk_fl zn_iload (zs_iload_n (q := 1) rfl (by decide +kernel))) <|
  zA_c (zOk_fl zn_bin (zs_imul (by decide +kernel))) <|
  zA_c (zOk_fl zn_iload (zs_iload_n (q := 3) rfl (by decide +kernel))) <|
  zA_c (zOk_fl zn_bin (zs_iadd (by decide +kernel))) <|
  zA_c (zOk_fl zn_ald (zs_iald (by decide +kernel))) <|
  zA_c (zOk_fl zn_ifne (zs_ifne (off := 25) (by decide +kernel) (by decide))) <|
  zA_c (zOk_fl zn_aload (zs_aload_n (q := 0) rfl (by decide +kernel))) <|
  zA_c (zOk_fl zn_getR (zs_getR (k := 8) rfl (by decide) (by decide +kernel) rfl (by decide +kernel) zw_1187)) <|
  zA_c (zOk_fl zn_push (zs_bipush (n := 64) (by decide +kernel) rfl)) <|
  zA_c (zOk_fl zn_iload (zs_iload_n (q := 1) rfl (by decide +kernel))) <|
  zA_c (zOk_fl zn_bin (zs_imul (by decide +kernel))) <|
  zA_c (zOk_fl zn_iload (zs_iload_n (q := 2) rfl (by decide +kernel))) <|
  zA_c (zOk_fl zn_iload (zs_iload_n (q := 3) rfl (by decide +kernel))) <|
  zA_c (zOk_fl zn_bin (zs_iadd (by decide +kernel))) <|
  zA_c (zOk_fl zn_push (zs_iconst (n := 2) (by decide +kernel) rfl)) <|
  zA_c (zOk_fl zn_quo (zs_idiv (by decide +kernel))) <|
  zA_c (zOk_fl zn_bin (zs_iadd (by decide +kernel))) <|
  zA_n
def zcl_236_4 : List (Nat × zmI) := [(128, zm_ald 129 100), (129, zm_ifne 132 136), (132, zm_push 133 1), (133, zm_goto 137), (136, zm_push 137 0), (137, zm_zret)]
theorem zmc_236_4 (l : Launch) : zAll l "ChessWireModel" prog_14_method_39_code 8 false (some .boolean) zcl_236_4 :=
  zA_c (zOk_fl zn_ald (zs_iald (by decide +kernel))) <|
  zA_c (zOk_fl zn_ifne (zs_ifne (off := 7) (by decide +kernel) (by decide))) <|
  zA_c (zOk_fl zn_push (zs_iconst (n := 1) (by decide +kernel) rfl)) <|
  zA_c (zOk_fl zn_goto (zs_goto (off := 4) (by decide +kernel) (by decide))) <|
  zA_c (zOk_fl zn_push (zs_iconst (n := 0) (by decide +kernel) rfl)) <|
  zA_c (zs_zret (by decide +kernel) rfl) <|
  zA_n
def zc_236 : Nat → zmI := zgetC [zcl_236_0, zcl_236_1, zcl_236_2, zcl_236_3, zcl_236_4]
theorem zmf_236 (l : Launch) : zMf l zc_236 236 := ⟨by decide +kernel, false, (fun h => by cases h), fun pc => zgetC_ok (zA2_c (zmc_236_0 l) (zA2_c (zmc_236_1 l) (zA2_c (zmc_236_2 l) (zA2_c (zmc_236_3 l) (zA2_c (zmc_236_4 l) (zA2_n)))))) pc⟩
def zcl_237_0 : List (Nat × zmI) := [(0, zm_aload 1 0), (1, zm_getR 4 12 8), (4, zm_push 6 64), (6, zm_iload 7 1), (7, zm_bin 8 (fun x y => w32 (x * y))), (8, zm_iload 9 2), (9, zm_bin 10 (fun x y => w32 (x + y))), (10, zm_ald 11 100), (11, zm_istore 13 4), (13, zm_iload 14 3), (14, zm_push 16 8), (16, zm_quo 17 z_rem), (17, zm_iload 18 2), (18, zm_push 20 8), (20, zm_quo 21 z_rem), (21, zm_bin 22 (fun x y => w32 (x - y))), (22, zm_call 25 238 1 true 99), (25, zm_istore 27 5), (27, zm_iload 28 3), (28, zm_push 30 8), (30, zm_quo 31 z_div), (31, zm_iload 32 2)]
theorem zmc_237_0 (l : Launch) : zAll l "ChessWireModel" prog_14_method_37_code 7 false (some .boolean) zcl_237_0 :=
  zA_c (zOk_fl zn_aload (zs_aload_n (q := 0) rfl (by decide +kernel))) <|
  zA_c (zOk_fl zn_getR (zs_getR (k := 8) rfl (by decide) (by decide +kernel) rfl (by decide +kernel) zw_1187)) <|
  zA_c (zOk_fl zn_push (zs_bipush (n := 64) (by decide +kernel) rfl)) <|
  zA_c (zOk_fl zn_iload (zs_iload_n (q := 1) rfl (by decide +kernel))) <|
  zA_c (zOk_fl zn_bin (zs_imul (by decide +kernel))) <|
  zA_c (zOk_fl zn_iload (zs_iload_n (q := 2) rfl (by decide +kernel))) <|
  zA_c (zOk_fl zn_bin (zs_iadd (by decide +kernel))) <|
  zA_c (zOk_fl zn_ald (zs_iald (by decide +kernel))) <|
  zA_c (zOk_fl zn_istore (zs_istore (by decide +kernel))) <|
  zA_c (zOk_fl zn_iload (zs_iload_n (q := 3) rfl (by decide +kernel))) <|
  zA_c (zOk_fl zn_push (zs_bipush (n := 8) (by decide +kernel) rfl)) <|
  zA_c (zOk_fl zn_quo (zs_irem (by decide +kernel))) <|
  zA_c (zOk_fl zn_iload (zs_iload_n (q := 2) rfl (by decide +kernel))) <|
  zA_c (zOk_fl zn_push (zs_bipush (n := 8) (by decide +kernel) rfl)) <|
  zA_c (zOk_fl zn_quo (zs_irem (by decide +kernel))) <|
  zA_c (zOk_fl zn_bin (zs_isub (by decide +kernel))) <|
  zA_c (zk_S zq_238 zw_1434 (by decide +kernel)) <|
  zA_c (zOk_fl zn_istore (zs_istore (by decide +kernel))) <|
  zA_c (zOk_fl zn_iload (zs_iload_n (q := 3) rfl (by decide +kernel))) <|
  zA_c (zOk_fl zn_push (zs_bipush (n := 8) (by decide +kernel) rfl)) <|
  zA_c (zOk_fl zn_quo (zs_idiv (by decide +kernel))) <|
  zA_c (zOk_fl zn_iload (zs_iload_n (q := 2) rfl (by decide +kernel))) <|
  zA_n
def zcl_237_1 : List (Nat × zmI) := [(32, zm_push 34 8), (34, zm_quo 35 z_div), (35, zm_bin 36 (fun x y => w32 (x - y))), (36, zm_istore 38 6), (38, zm_iload 40 4), (40, zm_push 42 8), (42, zm_quo 43 z_rem), (43, zm_tsw 252 1 6 [80, 109, 127, 158, 187, 226])]
theorem zmc_237_1 (l : Launch) : zAll l "ChessWireModel" prog_14_method_37_code 7 false (some .boolean) zcl_237_1 :=
  zA_c (zOk_fl zn_push (zs_bipush (n := 8) (by decide +kernel) rfl)) <|
  zA_c (zOk_fl zn_quo (zs_idiv (by decide +kernel))) <|
  zA_c (zOk_fl zn_bin (zs_isub (by decide +kernel))) <|
  zA_c (zOk_fl zn_istore (zs_istore (by decide +kernel))) <|
  zA_c (zOk_fl zn_iload (zs_iload (by decide +kernel))) <|
  zA_c (zOk_fl zn_push (zs_bipush (n := 8) (by decide +kernel) rfl)) <|
  zA_c (zOk_fl zn_quo (zs_irem (by decide +kernel))) <|
  zA_c (zOk_fl zn_tsw (zs_tsw (d0 := 209) (offs := #[37, 66, 84, 115, 144, 183]) (len := 37) (by decide +kernel) (by decide) (by decide) (by decide))) <|
  zA_n
def zcl_237_2 : List (Nat × zmI) := [(80, zm_iload 82 5), (82, zm_push 83 1), (83, zm_icne 86 107), (86, zm_iload 88 6), (88, zm_iload 90 4), (90, zm_push 92 8), (92, zm_icle 95 99), (95, zm_push 96 (-1))]
theorem zmc_237_2 (l : Launch) : zAll l "ChessWireModel" prog_14_method_37_code 7 false (some .boolean) zcl_237_2 :=
  zA_c (zOk_fl zn_iload (zs_iload (by decide +kernel))) <|
  zA_c (zOk_fl zn_push (zs_iconst (n := 1) (by decide +kernel) rfl)) <|
  zA_c (zOk_fl zn_icne (zs_icne (off := 24) (by decide +kernel) (by decide))) <|
  zA_c (zOk_fl zn_iload (zs_iload (by decide +kernel))) <|
  zA_c (zOk_fl zn_iload (zs_iload (by decide +kernel))) <|
  zA_c (zOk_fl zn_push (zs_bipush (n := 8) (by decide +kernel) rfl)) <|
  zA_c (zOk_fl zn_icle (zs_icle (off := 7) (by decide +kernel) (by decide))) <|
  zA_c (zOk_fl zn_push (zs_iconst (n := (-1)) (by decide +kernel) rfl)) <|
  zA_n
def zcl_237_3 : List (Nat × zmI) := [(96, zm_goto 100), (99, zm_push 100 1), (100, zm_icne 103 107), (103, zm_push 104 1), (104, zm_goto 108), (107, zm_push 108 0), (108, zm_zret), (109, zm_iload 111 5), (111, zm_iload 113 6), (113, zm_call 116 238 1 true 99), (116, zm_bin 117 (fun x y => w32 (x * y))), (117, zm_push 118 2), (118, zm_icne 121 125), (121, zm_push 122 1), (122, zm_goto 126), (125, zm_push 126 0), (126, zm_zret), (127, zm_iload 129 5)]
theorem zmc_237_3 (l : Launch) : zAll l "ChessWireModel" prog_14_method_37_code 7 false (some .boolean) zcl_237_3 :=
  zA_c (zOk_fl zn_goto (zs_goto (off := 4) (by decide +kernel) (by decide))) <|
  zA_c (zOk_fl zn_push (zs_iconst (n := 1) (by decide +kernel) rfl)) <|
  zA_c (zOk_fl zn_icne (zs_icne (off := 7) (by decide +kernel) (by decide))) <|
  zA_c (zOk_fl zn_push (zs_iconst (n := 1) (by decide +kernel) rfl)) <|
  zA_c (zOk_fl zn_goto (zs_goto (off := 4) (by decide +kernel) (by decide))) <|
  zA_c (zOk_fl zn_push (zs_iconst (n := 0) (by decide +kernel) rfl)) <|
  zA_c (zs_zret (by decide +kernel) rfl) <|
  zA_c (zOk_fl zn_iload (zs_iload (by decide +kernel))) <|
  zA_c (zOk_fl zn_iload (zs_iload (by decide +kernel))) <|
  zA_c (zk_S zq_238 zw_1434 (by decide +kernel)) <|
  zA_c (zOk_fl zn_bin (zs_imul (by decide +kernel))) <|
  zA_c (zOk_fl zn_push (zs_iconst (n := 2) (by decide +kernel) rfl)) <|
  zA_c (zOk_fl zn_icne (zs_icne (off := 7) (by decide +kernel) (by decide))) <|
  zA_c (zOk_fl zn_push (zs_iconst (n := 1) (by decide +kernel) rfl)) <|
  zA_c (zOk_fl zn_goto (zs_goto (off := 4) (by decide +kernel) (by decide))) <|
  zA_c (zOk_fl zn_push (zs_iconst (n := 0) (by decide +kernel) rfl)) <|
  zA_c (zs_zret (by decide +kernel) rfl) <|
  zA_c (zOk_fl zn_iload (zs_iload (by decide +kernel))) <|
  zA_n
def zcl_237_4 : List (Nat × zmI) := [(129, zm_iload 131 6), (131, zm_call 134 238 1 true 99), (134, zm_icne 137 156), (137, zm_iload 139 5), (139, zm_ifle 142 156), (142, zm_aload 143 0), (143, zm_iload 144 1), (144, zm_iload 145 2), (145, zm_iload 146 3), (146, zm_call 149 239 4 true 12), (149, zm_ifeq 152 156), (152, zm_push 153 1), (153, zm_goto 157), (156, zm_push 157 0), (157, zm_zret), (158, zm_iload 160 5)]
theorem zmc_237_4 (l : Launch) : zAll l "ChessWireModel" prog_14_method_37_code 7 false (some .boolean) zcl_237_4 :=
  zA_c (zOk_fl zn_iload (zs_iload (by decide +kernel))) <|
  zA_c (zk_S zq_238 zw_1434 (by decide +kernel)) <|
  zA_c (zOk_fl zn_icne (zs_icne (off := 22) (by decide +kernel) (by decide))) <|
  zA_c (zOk_fl zn_iload (zs_iload (by decide +kernel))) <|
  zA_c (zOk_fl zn_ifle (zs_ifle (off := 17) (by decide +kernel) (by decide))) <|
  zA_c (zOk_fl zn_aload (zs_aload_n (q := 0) rfl (by decide +kernel))) <|
  zA_c (zOk_fl zn_iload (zs_iload_n (q := 1) rfl (by decide +kernel))) <|
  zA_c (zOk_fl zn_iload (zs_iload_n (q := 2) rfl (by decide +kernel))) <|
  zA_c (zOk_fl zn_iload (zs_iload_n (q := 3) rfl (by decide +kernel))) <|
  zA_c (zk_V zq_239 zw_1437 rfl (by decide +kernel)) <|
  zA_c (zOk_fl zn_ifeq (zs_ifeq (off := 7) (by decide +kernel) (by decide))) <|
  zA_c (zOk_fl zn_push (zs_iconst (n := 1) (by decide +kernel) rfl)) <|
  zA_c (zOk_fl zn_goto (zs_goto (off := 4) (by decide +kernel) (by decide))) <|
  zA_c (zOk_fl zn_push (zs_iconst (n := 0) (by decide +kernel) rfl)) <|
  zA_c (zs_zret (by decide +kernel) rfl) <|
  zA_c (zOk_fl zn_iload (zs_iload (by decide +kernel))) <|
  zA_n
def zcl_237_5 : List (Nat × zmI) := [(160, zm_iload 162 6), (162, zm_bin 163 (fun x y => w32 (x * y))), (163, zm_ifne 166 185), (166, zm_iload 167 2), (167, zm_iload 168 3), (168, zm_iceq 171 185), (171, zm_aload 172 0), (172, zm_iload 173 1), (173, zm_iload 174 2), (174, zm_iload 175 3), (175, zm_call 178 239 4 true 12), (178, zm_ifeq 181 185), (181, zm_push 182 1), (182, zm_goto 186), (185, zm_push 186 0), (186, zm_zret), (187, zm_iload 188 2), (188, zm_iload 189 3), (189, zm_iceq 192 224)]
theorem zmc_237_5 (l : Launch) : zAll l "ChessWireModel" prog_14_method_37_code 7 false (some .boolean) zcl_237_5 :=
  zA_c (zOk_fl zn_iload (zs_iload (by decide +kernel))) <|
  zA_c (zOk_fl zn_bin (zs_imul (by decide +kernel))) <|
  zA_c (zOk_fl zn_ifne (zs_ifne (off := 22) (by decide +kernel) (by decide))) <|
  zA_c (zOk_fl zn_iload (zs_iload_n (q := 2) rfl (by decide +kernel))) <|
  zA_c (zOk_fl zn_iload (zs_iload_n (q := 3) rfl (by decide +kernel))) <|
  zA_c (zOk_fl zn_iceq (zs_iceq (off := 17) (by decide +kernel) (by decide))) <|
  zA_c (zOk_fl zn_aload (zs_aload_n (q := 0) rfl (by decide +kernel))) <|
  zA_c (zOk_fl zn_iload (zs_iload_n (q := 1) rfl (by decide +kernel))) <|
  zA_c (zOk_fl zn_iload (zs_iload_n (q := 2) rfl (by decide +kernel))) <|
  zA_c (zOk_fl zn_iload (zs_iload_n (q := 3) rfl (by decide +kernel))) <|
  zA_c (zk_V zq_239 zw_1437 rfl (by decide +kernel)) <|
  zA_c (zOk_fl zn_ifeq (zs_ifeq (off := 7) (by decide +kernel) (by decide))) <|
  zA_c (zOk_fl zn_push (zs_iconst (n := 1) (by decide +kernel) rfl)) <|
  zA_c (zOk_fl zn_goto (zs_goto (off := 4) (by decide +kernel) (by decide))) <|
  zA_c (zOk_fl zn_push (zs_iconst (n := 0) (by decide +kernel) rfl)) <|
  zA_c (zs_zret (by decide +kernel) rfl) <|
  zA_c (zOk_fl zn_iload (zs_iload_n (q := 2) rfl (by decide +kernel))) <|
  zA_c (zOk_fl zn_iload (zs_iload_n (q := 3) rfl (by decide +kernel))) <|
  zA_c (zOk_fl zn_iceq (zs_iceq (off := 35) (by decide +kernel) (by decide))) <|
  zA_n
def zcl_237_6 : List (Nat × zmI) := [(192, zm_iload 194 5), (194, zm_iload 196 6), (196, zm_bin 197 (fun x y => w32 (x * y))), (197, zm_ifeq 200 210), (200, zm_iload 202 5), (202, zm_iload 204 6), (204, zm_call 207 238 1 true 99), (207, zm_icne 210 224), (210, zm_aload 211 0), (211, zm_iload 212 1), (212, zm_iload 213 2), (213, zm_iload 214 3), (214, zm_call 217 239 4 true 12), (217, zm_ifeq 220 224), (220, zm_push 221 1), (221, zm_goto 225)]
theorem zmc_237_6 (l : Launch) : zAll l "ChessWireModel" prog_14_method_37_code 7 false (some .boolean) zcl_237_6 :=
  zA_c (zOk_fl zn_iload (zs_iload (by decide +kernel))) <|
  zA_c (zOk_fl zn_iload (zs_iload (by decide +kernel))) <|
  zA_c (zOk_fl zn_bin (zs_imul (by decide +kernel))) <|
  zA_c (zOk_fl zn_ifeq (zs_ifeq (off := 13) (by decide +kernel) (by decide))) <|
  zA_c (zOk_fl zn_iload (zs_iload (by decide +kernel))) <|
  zA_c (zOk_fl zn_iload (zs_iload (by decide +kernel))) <|
  zA_c (zk_S zq_238 zw_1434 (by decide +kernel)) <|
  zA_c (zOk_fl zn_icne (zs_icne (off := 17) (by decide +kernel) (by decide))) <|
  zA_c (zOk_fl zn_aload (zs_aload_n (q := 0) rfl (by decide +kernel))) <|
  zA_c (zOk_fl zn_iload (zs_iload_n (q := 1) rfl (by decide +kernel))) <|
  zA_c (zOk_fl zn_iload (zs_iload_n (q := 2) rfl (by decide +kernel))) <|
  zA_c (zOk_fl zn_iload (zs_iload_n (q := 3) rfl (by decide +kernel))) <|
  zA_c (zk_V zq_239 zw_1437 rfl (by decide +kernel)) <|
  zA_c (zOk_fl zn_ifeq (zs_ifeq (off := 7) (by decide +kernel) (by decide))) <|
  zA_c (zOk_fl zn_push (zs_iconst (n := 1) (by decide +kernel) rfl)) <|
  zA_c (zOk_fl zn_goto (zs_goto (off := 4) (by decide +kernel) (by decide))) <|
  zA_n
def zcl_237_7 : List (Nat × zmI) := [(224, zm_push 225 0), (225, zm_zret), (226, zm_iload 227 2), (227, zm_iload 228 3), (228, zm_iceq 231 250), (231, zm_iload 233 5), (233, zm_push 234 2), (234, zm_icge 237 250), (237, zm_iload 239 6), (239, zm_call 242 238 1 true 99), (242, zm_push 243 2), (243, zm_icge 246 250), (246, zm_push 247 1), (247, zm_goto 251), (250, zm_push 251 0), (251, zm_zret), (252, zm_push 253 0), (253, zm_zret)]
theorem zmc_237_7 (l : Launch) : zAll l "ChessWireModel" prog_14_method_37_code 7 false (some .boolean) zcl_237_7 :=
  zA_c (zOk_fl zn_push (zs_iconst (n := 0) (by decide +kernel) rfl)) <|
  zA_c (zs_zret (by decide +kernel) rfl) <|
  zA_c (zOk_fl zn_iload (zs_iload_n (q := 2) rfl (by decide +kernel))) <|
  zA_c (zOk_fl zn_iload (zs_iload_n (q := 3) rfl (by decide +kernel))) <|
  zA_c (zOk_fl zn_iceq (zs_iceq (off := 22) (by decide +kernel) (by decide))) <|
  zA_c (zOk_fl zn_iload (zs_iload (by decide +kernel))) <|
  zA_c (zOk_fl zn_push (zs_iconst (n := 2) (by decide +kernel) rfl)) <|
  zA_c (zOk_fl zn_icge (zs_icge (off := 16) (by decide +kernel) (by decide))) <|
  zA_c (zOk_fl zn_iload (zs_iload (by decide +kernel))) <|
  zA_c (zk_S zq_238 zw_1434 (by decide +kernel)) <|
  zA_c (zOk_fl zn_push (zs_iconst (n := 2) (by decide +kernel) rfl)) <|
  zA_c (zOk_fl zn_icge (zs_icge (off := 7) (by decide +kernel) (by decide))) <|
  zA_c (zOk_fl zn_push (zs_iconst (n := 1) (by decide +kernel) rfl)) <|
  zA_c (zOk_fl zn_goto (zs_goto (off := 4) (by decide +kernel) (by decide))) <|
  zA_c (zOk_fl zn_push (zs_iconst (n := 0) (by decide +kernel) rfl)) <|
  zA_c (zs_zret (by decide +kernel) rfl) <|
  zA_c (zOk_fl zn_push (zs_iconst (n := 0) (by decide +kernel) rfl)) <|
  zA_c (zs_zret (by decide +kernel) rfl) <|
  zA_n
def zc_237 : Nat → zmI := zgetC [zcl_237_0, zcl_237_1, zcl_237_2, zcl_237_3, zcl_237_4, zcl_237_5, zcl_237_6, zcl_237_7]
theorem zmf_237 (l : Launch) : zMf l zc_237 237 := ⟨by decide +kernel, false, (fun h => by cases h), fun pc => zgetC_ok (zA2_c (zmc_237_0 l) (zA2_c (zmc_237_1 l) (zA2_c (zmc_237_2 l) (zA2_c (zmc_237_3 l) (zA2_c (zmc_237_4 l) (zA2_c (zmc_237_5 l) (zA2_c (zmc_237_6 l) (zA2_c (zmc_237_7 l) (zA2_n))))))))) pc⟩
