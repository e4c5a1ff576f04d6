/-! code, and why it is sound -/
def zcl_0_0 : List (Nat × zmI) := [(0, zm_aload 1 0), (1, zm_obj 4), (4, zm_aload 5 0), (5, zm_push 6 3), (6, zm_newa 9 103), (9, zm_dup 10), (10, zm_push 11 0), (11, zm_new 14 1 2), (14, zm_dup 15), (15, zm_push 17 80), (17, zm_call 20 2 2 false 1), (20, zm_aast 21 103 1), (21, zm_dup 22), (22, zm_push 23 1), (23, zm_new 26 1 2), (26, zm_dup 27), (27, zm_push 29 10), (29, zm_call 32 2 2 false 1)]
theorem zmc_0_0 (l : Launch) : zAll l "ChessWire" prog_1_method_1_code 1 true (none) zcl_0_0 :=
  zA_c (zOk_fl zn_aload (zs_aload_n (q := 0) rfl (by decide +kernel))) <|
  zA_c (zOk_fl zn_obj (zs_obj (by decide +kernel) zw_29 zw_30 zw_objc)) <|
  zA_c (zOk_fl zn_aload (zs_aload_n (q := 0) rfl (by decide +kernel))) <|
  zA_c (zOk_fl zn_push (zs_iconst (n := 3) (by decide +kernel) rfl)) <|
  zA_c (zOk_sn zn_newa (zs_newq (t := 3) (by decide) (by decide) rfl (fun s h => h.1) rfl (by decide +kernel) zw_32)) <|
  zA_c (zOk_fl zn_dup (zs_dup (by decide +kernel))) <|
  zA_c (zOk_fl zn_push (zs_iconst (n := 0) (by decide +kernel) rfl)) <|
  zA_c (zOk_sn zn_new (zs_new (by decide) (by decide +kernel) (by decide +kernel) zw_32 zw_34 zw_2)) <|
  zA_c (zOk_fl zn_dup (zs_dup (by decide +kernel))) <|
  zA_c (zOk_fl zn_push (zs_bipush (n := 80) (by decide +kernel) rfl)) <|
  zA_c (zk_I zq_2 zw_35 rfl (by decide +kernel)) <|
  zA_c (zOk_sn zn_aast (zs_aast (t := 3) (by decide) (by decide) (by decide) rfl rfl (by decide +kernel))) <|
  zA_c (zOk_fl zn_dup (zs_dup (by decide +kernel))) <|
  zA_c (zOk_fl zn_push (zs_iconst (n := 1) (by decide +kernel) rfl)) <|
  zA_c (zOk_sn zn_new (zs_new (by decide) (by decide +kernel) (by decide +kernel) zw_32 zw_34 zw_2)) <|
  zA_c (zOk_fl zn_dup (zs_dup (by decide +kernel))) <|
  zA_c (zOk_fl zn_push (zs_bipush (n := 10) (by decide +kernel) rfl)) <|
  zA_c (zk_I zq_2 zw_35 rfl (by decide +kernel)) <|
  zA_n
def zcl_0_1 : List (Nat × zmI) := [(32, zm_aast 33 103 1), (33, zm_dup 34), (34, zm_push 35 2), (35, zm_new 38 1 2), (38, zm_dup 39), (39, zm_push 41 60), (41, zm_call 44 2 2 false 1), (44, zm_aast 45 103 1), (45, zm_putR 48 0 0), (48, zm_aload 49 0), (49, zm_new 52 2 4), (52, zm_dup 53), (53, zm_call 56 4 1 false 2), (56, zm_putR 59 0 1), (59, zm_aload 60 0), (60, zm_new 63 3 3), (63, zm_dup 64)]
theorem zmc_0_1 (l : Launch) : zAll l "ChessWire" prog_1_method_1_code 1 true (none) zcl_0_1 :=
  zA_c (zOk_sn zn_aast (zs_aast (t := 3) (by decide) (by decide) (by decide) rfl rfl (by decide +kernel))) <|
  zA_c (zOk_fl zn_dup (zs_dup (by decide +kernel))) <|
  zA_c (zOk_fl zn_push (zs_iconst (n := 2) (by decide +kernel) rfl)) <|
  zA_c (zOk_sn zn_new (zs_new (by decide) (by decide +kernel) (by decide +kernel) zw_32 zw_34 zw_2)) <|
  zA_c (zOk_fl zn_dup (zs_dup (by decide +kernel))) <|
  zA_c (zOk_fl zn_push (zs_bipush (n := 60) (by decide +kernel) rfl)) <|
  zA_c (zk_I zq_2 zw_35 rfl (by decide +kernel)) <|
  zA_c (zOk_sn zn_aast (zs_aast (t := 3) (by decide) (by decide) (by decide) rfl rfl (by decide +kernel))) <|
  zA_c (zOk_sn zn_putR (zs_putR (k := 0) rfl (by decide) (by decide +kernel) rfl rfl rfl rfl (by decide +kernel) zw_303)) <|
  zA_c (zOk_fl zn_aload (zs_aload_n (q := 0) rfl (by decide +kernel))) <|
  zA_c (zOk_sn zn_new (zs_new (by decide) (by decide +kernel) (by decide +kernel) zw_50 zw_51 zw_4)) <|
  zA_c (zOk_fl zn_dup (zs_dup (by decide +kernel))) <|
  zA_c (zk_I zq_4 zw_52 rfl (by decide +kernel)) <|
  zA_c (zOk_sn zn_putR (zs_putR (k := 1) rfl (by decide) (by decide +kernel) rfl rfl rfl rfl (by decide +kernel) zw_304)) <|
  zA_c (zOk_fl zn_aload (zs_aload_n (q := 0) rfl (by decide +kernel))) <|
  zA_c (zOk_sn zn_new (zs_new (by decide) (by decide +kernel) (by decide +kernel) zw_69 zw_70 zw_5)) <|
  zA_c (zOk_fl zn_dup (zs_dup (by decide +kernel))) <|
  zA_n
def zcl_0_2 : List (Nat × zmI) := [(64, zm_call 67 5 1 false 3), (67, zm_putR 70 0 2), (70, zm_aload 71 0), (71, zm_new 74 4 3), (74, zm_dup 75), (75, zm_call 78 6 1 false 4), (78, zm_putR 81 0 3), (81, zm_aload 82 0), (82, zm_new 85 4 3), (85, zm_dup 86), (86, zm_call 89 6 1 false 4), (89, zm_putR 92 0 4), (92, zm_aload 93 0), (93, zm_new 96 5 4)]
theorem zmc_0_2 (l : Launch) : zAll l "ChessWire" prog_1_method_1_code 1 true (none) zcl_0_2 :=
  zA_c (zk_I zq_5 zw_71 rfl (by decide +kernel)) <|
  zA_c (zOk_sn zn_putR (zs_putR (k := 2) rfl (by decide) (by decide +kernel) rfl rfl rfl rfl (by decide +kernel) zw_305)) <|
  zA_c (zOk_fl zn_aload (zs_aload_n (q := 0) rfl (by decide +kernel))) <|
  zA_c (zOk_sn zn_new (zs_new (by decide) (by decide +kernel) (by decide +kernel) zw_85 zw_86 zw_6)) <|
  zA_c (zOk_fl zn_dup (zs_dup (by decide +kernel))) <|
  zA_c (zk_I zq_6 zw_87 rfl (by decide +kernel)) <|
  zA_c (zOk_sn zn_putR (zs_putR (k := 3) rfl (by decide) (by decide +kernel) rfl rfl rfl rfl (by decide +kernel) zw_306)) <|
  zA_c (zOk_fl zn_aload (zs_aload_n (q := 0) rfl (by decide +kernel))) <|
  zA_c (zOk_sn zn_new (zs_new (by decide) (by decide +kernel) (by decide +kernel) zw_85 zw_86 zw_6)) <|
  zA_c (zOk_fl zn_dup (zs_dup (by decide +kernel))) <|
  zA_c (zk_I zq_6 zw_87 rfl (by decide +kernel)) <|
  zA_c (zOk_sn zn_putR (zs_putR (k := 4) rfl (by decide) (by decide +kernel) rfl rfl rfl rfl (by decide +kernel) zw_307)) <|
  zA_c (zOk_fl zn_aload (zs_aload_n (q := 0) rfl (by decide +kernel))) <|
  zA_c (zOk_sn zn_new (zs_new (by decide) (by decide +kernel) (by decide +kernel) zw_101 zw_102 zw_7)) <|
  zA_n
def zcl_0_3 : List (Nat × zmI) := [(96, zm_dup 97), (97, zm_push 100 640), (100, zm_call 103 7 2 false 5), (103, zm_putR 106 0 5), (106, zm_aload 107 0), (107, zm_new 110 6 1), (110, zm_dup 111), (111, zm_call 114 8 1 false 6), (114, zm_putR 117 0 6), (117, zm_aload 118 0), (118, zm_push 120 6), (120, zm_newa 122 100), (122, zm_dup 123), (123, zm_push 124 0), (124, zm_push 125 1), (125, zm_iast 126), (126, zm_dup 127), (127, zm_push 128 1)]
theorem zmc_0_3 (l : Launch) : zAll l "ChessWire" prog_1_method_1_code 1 true (none) zcl_0_3 :=
  zA_c (zOk_fl zn_dup (zs_dup (by decide +kernel))) <|
  zA_c (zOk_fl zn_push (zs_sipush (n := 640) (by decide +kernel) rfl)) <|
  zA_c (zk_I zq_7 zw_103 rfl (by decide +kernel)) <|
  zA_c (zOk_sn zn_putR (zs_putR (k := 5) rfl (by decide) (by decide +kernel) rfl rfl rfl rfl (by decide +kernel) zw_308)) <|
  zA_c (zOk_fl zn_aload (zs_aload_n (q := 0) rfl (by decide +kernel))) <|
  zA_c (zOk_sn zn_new (zs_new (by decide) (by decide +kernel) (by decide +kernel) zw_121 zw_122 zw_8)) <|
  zA_c (zOk_fl zn_dup (zs_dup (by decide +kernel))) <|
  zA_c (zk_I zq_8 zw_123 rfl (by decide +kernel)) <|
  zA_c (zOk_sn zn_putR (zs_putR (k := 6) rfl (by decide) (by decide +kernel) rfl rfl rfl rfl (by decide +kernel) zw_309)) <|
  zA_c (zOk_fl zn_aload (zs_aload_n (q := 0) rfl (by decide +kernel))) <|
  zA_c (zOk_fl zn_push (zs_bipush (n := 6) (by decide +kernel) rfl)) <|
  zA_c (zOk_sn zn_newa (zs_newi zw_49 (by decide +kernel))) <|
  zA_c (zOk_fl zn_dup (zs_dup (by decide +kernel))) <|
  zA_c (zOk_fl zn_push (zs_iconst (n := 0) (by decide +kernel) rfl)) <|
  zA_c (zOk_fl zn_push (zs_iconst (n := 1) (by decide +kernel) rfl)) <|
  zA_c (zOk_sn zn_iast (zs_iast (by decide +kernel))) <|
  zA_c (zOk_fl zn_dup (zs_dup (by decide +kernel))) <|
  zA_c (zOk_fl zn_push (zs_iconst (n := 1) (by decide +kernel) rfl)) <|
  zA_n
def zcl_0_4 : List (Nat × zmI) := [(128, zm_push 129 1), (129, zm_iast 130), (130, zm_dup 131), (131, zm_push 132 2), (132, zm_push 133 1), (133, zm_iast 134), (134, zm_dup 135), (135, zm_push 136 3), (136, zm_push 137 1), (137, zm_iast 138), (138, zm_dup 139), (139, zm_push 140 4), (140, zm_push 141 1), (141, zm_iast 142), (142, zm_dup 143), (143, zm_push 144 5), (144, zm_push 145 1), (145, zm_iast 146), (146, zm_putR 149 0 7), (149, zm_aload 150 0), (150, zm_new 153 7 6), (153, zm_dup 154), (154, zm_call 157 9 1 false 7), (157, zm_putR 160 0 8)]
theorem zmc_0_4 (l : Launch) : zAll l "ChessWire" prog_1_method_1_code 1 true (none) zcl_0_4 :=
  zA_c (zOk_fl zn_push (zs_iconst (n := 1) (by decide +kernel) rfl)) <|
  zA_c (zOk_sn zn_iast (zs_iast (by decide +kernel))) <|
  zA_c (zOk_fl zn_dup (zs_dup (by decide +kernel))) <|
  zA_c (zOk_fl zn_push (zs_iconst (n := 2) (by decide +kernel) rfl)) <|
  zA_c (zOk_fl zn_push (zs_iconst (n := 1) (by decide +kernel) rfl)) <|
  zA_c (zOk_sn zn_iast (zs_iast (by decide +kernel))) <|
  zA_c (zOk_fl zn_dup (zs_dup (by decide +kernel))) <|
  zA_c (zOk_fl zn_push (zs_iconst (n := 3) (by decide +kernel) rfl)) <|
  zA_c (zOk_fl zn_push (zs_iconst (n := 1) (by decide +kernel) rfl)) <|
  zA_c (zOk_sn zn_iast (zs_iast (by decide +kernel))) <|
  zA_c (zOk_fl zn_dup (zs_dup (by decide +kernel))) <|
  zA_c (zOk_fl zn_push (zs_iconst (n := 4) (by decide +kernel) rfl)) <|
  zA_c (zOk_fl zn_push (zs_iconst (n := 1) (by decide +kernel) rfl)) <|
  zA_c (zOk_sn zn_iast (zs_iast (by decide +kernel))) <|
  zA_c (zOk_fl zn_dup (zs_dup (by decide +kernel))) <|
  zA_c (zOk_fl zn_push (zs_iconst (n := 5) (by decide +kernel) rfl)) <|
  zA_c (zOk_fl zn_push (zs_iconst (n := 1) (by decide +kernel) rfl)) <|
  zA_c (zOk_sn zn_iast (zs_iast (by decide +kernel))) <|
  zA_c (zOk_sn zn_putR (zs_putR (k := 7) rfl (by decide) (by decide +kernel) rfl rfl rfl rfl (by decide +kernel) zw_310)) <|
  zA_c (zOk_fl zn_aload (zs_aload_n (q := 0) rfl (by decide +kernel))) <|
  zA_c (zOk_sn zn_new (zs_new (by decide) (by decide +kernel) (by decide +kernel) zw_131 zw_132 zw_9)) <|
  zA_c (zOk_fl zn_dup (zs_dup (by decide +kernel))) <|
  zA_c (zk_I zq_9 zw_133 rfl (by decide +kernel)) <|
  zA_c (zOk_sn zn_putR (zs_putR (k := 8) rfl (by decide) (by decide +kernel) rfl rfl rfl rfl (by decide +kernel) zw_311)) <|
  zA_n
def zcl_0_5 : List (Nat × zmI) := [(160, zm_aload 161 0), (161, zm_new 164 8 12), (164, zm_dup 165), (165, zm_call 168 10 1 false 8), (168, zm_putR 171 0 9), (171, zm_aload 172 0), (172, zm_new 175 9 7), (175, zm_dup 176), (176, zm_call 179 11 1 false 9), (179, zm_putR 182 0 10), (182, zm_aload 183 0), (183, zm_new 186 10 9), (186, zm_dup 187), (187, zm_call 190 12 1 false 10), (190, zm_putR 193 0 11)]
theorem zmc_0_5 (l : Launch) : zAll l "ChessWire" prog_1_method_1_code 1 true (none) zcl_0_5 :=
  zA_c (zOk_fl zn_aload (zs_aload_n (q := 0) rfl (by decide +kernel))) <|
  zA_c (zOk_sn zn_new (zs_new (by decide) (by decide +kernel) (by decide +kernel) zw_156 zw_157 zw_10)) <|
  zA_c (zOk_fl zn_dup (zs_dup (by decide +kernel))) <|
  zA_c (zk_I zq_10 zw_158 rfl (by decide +kernel)) <|
  zA_c (zOk_sn zn_putR (zs_putR (k := 9) rfl (by decide) (by decide +kernel) rfl rfl rfl rfl (by decide +kernel) zw_312)) <|
  zA_c (zOk_fl zn_aload (zs_aload_n (q := 0) rfl (by decide +kernel))) <|
  zA_c (zOk_sn zn_new (zs_new (by decide) (by decide +kernel) (by decide +kernel) zw_207 zw_208 zw_11)) <|
  zA_c (zOk_fl zn_dup (zs_dup (by decide +kernel))) <|
  zA_c (zk_I zq_11 zw_209 rfl (by decide +kernel)) <|
  zA_c (zOk_sn zn_putR (zs_putR (k := 10) rfl (by decide) (by decide +kernel) rfl rfl rfl rfl (by decide +kernel) zw_313)) <|
  zA_c (zOk_fl zn_aload (zs_aload_n (q := 0) rfl (by decide +kernel))) <|
  zA_c (zOk_sn zn_new (zs_new (by decide) (by decide +kernel) (by decide +kernel) zw_242 zw_243 zw_12)) <|
  zA_c (zOk_fl zn_dup (zs_dup (by decide +kernel))) <|
  zA_c (zk_I zq_12 zw_244 rfl (by decide +kernel)) <|
  zA_c (zOk_sn zn_putR (zs_putR (k := 11) rfl (by decide) (by decide +kernel) rfl rfl rfl rfl (by decide +kernel) zw_314)) <|
  zA_n
def zcl_0_6 : List (Nat × zmI) := [(193, zm_aload 194 0), (194, zm_push 195 4), (195, zm_newa 198 107), (198, zm_dup 199), (199, zm_push 200 0), (200, zm_new 203 11 4), (203, zm_dup 204), (204, zm_call 207 13 1 false 11), (207, zm_aast 208 107 11), (208, zm_dup 209), (209, zm_push 210 1), (210, zm_new 213 11 4), (213, zm_dup 214), (214, zm_call 217 13 1 false 11), (217, zm_aast 218 107 11), (218, zm_dup 219), (219, zm_push 220 2), (220, zm_new 223 11 4), (223, zm_dup 224)]
theorem zmc_0_6 (l : Launch) : zAll l "ChessWire" prog_1_method_1_code 1 true (none) zcl_0_6 :=
  zA_c (zOk_fl zn_aload (zs_aload_n (q := 0) rfl (by decide +kernel))) <|
  zA_c (zOk_fl zn_push (zs_iconst (n := 4) (by decide +kernel) rfl)) <|
  zA_c (zOk_sn zn_newa (zs_newq (t := 7) (by decide) (by decide) rfl (fun s h => h.2.2.2.2) rfl (by decide +kernel) zw_283)) <|
  zA_c (zOk_fl zn_dup (zs_dup (by decide +kernel))) <|
  zA_c (zOk_fl zn_push (zs_iconst (n := 0) (by decide +kernel) rfl)) <|
  zA_c (zOk_sn zn_new (zs_new (by decide) (by decide +kernel) (by decide +kernel) zw_283 zw_285 zw_13)) <|
  zA_c (zOk_fl zn_dup (zs_dup (by decide +kernel))) <|
  zA_c (zk_I zq_13 zw_286 rfl (by decide +kernel)) <|
  zA_c (zOk_sn zn_aast (zs_aast (t := 7) (by decide) (by decide) (by decide) rfl rfl (by decide +kernel))) <|
  zA_c (zOk_fl zn_dup (zs_dup (by decide +kernel))) <|
  zA_c (zOk_fl zn_push (zs_iconst (n := 1) (by decide +kernel) rfl)) <|
  zA_c (zOk_sn zn_new (zs_new (by decide) (by decide +kernel) (by decide +kernel) zw_283 zw_285 zw_13)) <|
  zA_c (zOk_fl zn_dup (zs_dup (by decide +kernel))) <|
  zA_c (zk_I zq_13 zw_286 rfl (by decide +kernel)) <|
  zA_c (zOk_sn zn_aast (zs_aast (t := 7) (by decide) (by decide) (by decide) rfl rfl (by decide +kernel))) <|
  zA_c (zOk_fl zn_dup (zs_dup (by decide +kernel))) <|
  zA_c (zOk_fl zn_push (zs_iconst (n := 2) (by decide +kernel) rfl)) <|
  zA_c (zOk_sn zn_new (zs_new (by decide) (by decide +kernel) (by decide +kernel) zw_283 zw_285 zw_13)) <|
  zA_c (zOk_fl zn_dup (zs_dup (by decide +kernel))) <|
  zA_n
def zcl_0_7 : List (Nat × zmI) := [(224, zm_call 227 13 1 false 11), (227, zm_aast 228 107 11), (228, zm_dup 229), (229, zm_push 230 3), (230, zm_new 233 11 4), (233, zm_dup 234), (234, zm_call 237 13 1 false 11), (237, zm_aast 238 107 11), (238, zm_putR 241 0 12), (241, zm_vret)]
theorem zmc_0_7 (l : Launch) : zAll l "ChessWire" prog_1_method_1_code 1 true (none) zcl_0_7 :=
  zA_c (zk_I zq_13 zw_286 rfl (by decide +kernel)) <|
  zA_c (zOk_sn zn_aast (zs_aast (t := 7) (by decide) (by decide) (by decide) rfl rfl (by decide +kernel))) <|
  zA_c (zOk_fl zn_dup (zs_dup (by decide +kernel))) <|
  zA_c (zOk_fl zn_push (zs_iconst (n := 3) (by decide +kernel) rfl)) <|
  zA_c (zOk_sn zn_new (zs_new (by decide) (by decide +kernel) (by decide +kernel) zw_283 zw_285 zw_13)) <|
  zA_c (zOk_fl zn_dup (zs_dup (by decide +kernel))) <|
  zA_c (zk_I zq_13 zw_286 rfl (by decide +kernel)) <|
  zA_c (zOk_sn zn_aast (zs_aast (t := 7) (by decide) (by decide) (by decide) rfl rfl (by decide +kernel))) <|
  zA_c (zOk_sn zn_putR (zs_putR (k := 12) rfl (by decide) (by decide +kernel) rfl rfl rfl rfl (by decide +kernel) zw_315)) <|
  zA_c (zs_vret (by decide +kernel) rfl) <|
  zA_n
def zc_0 : Nat → zmI := zgetC [zcl_0_0, zcl_0_1, zcl_0_2, zcl_0_3, zcl_0_4, zcl_0_5, zcl_0_6, zcl_0_7]
theorem zmf_0 (l : Launch) : zMf l zc_0 0 := ⟨by decide +kernel, true, fun _ => rfl, fun pc => zgetC_ok (zA2_c (zmc_0_0 l) (zA2_c (zmc_0_1 l) (zA2_c (zmc_0_2 l) (zA2_c (zmc_0_3 l) (zA2_c (zmc_0_4 l) (zA2_c (zmc_0_5 l) (zA2_c (zmc_0_6 l) (zA2_c (zmc_0_7 l) (zA2_n))))))))) pc⟩
def zcl_2_0 : List (Nat × zmI) := [(0, zm_aload 1 0), (1, zm_obj 4), (4, zm_aload 5 0), (5, zm_push 6 0), (6, zm_iload 7 1), (7, zm_call 10 3 2 true 99), (10, zm_newa 12 100), (12, zm_putR 15 1 0), (15, zm_vret)]
theorem zmc_2_0 (l : Launch) : zAll l "ChessWire$Text" prog_12_method_1_code 2 true (none) zcl_2_0 :=
  zA_c (zOk_fl zn_aload (zs_aload_n (q := 0) rfl (by decide +kernel))) <|
  zA_c (zOk_fl zn_obj (zs_obj (by decide +kernel) zw_38 zw_30 zw_objc)) <|
  zA_c (zOk_fl zn_aload (zs_aload_n (q := 0) rfl (by decide +kernel))) <|
  zA_c (zOk_fl zn_push (zs_iconst (n := 0) (by decide +kernel) rfl)) <|
  zA_c (zOk_fl zn_iload (zs_iload_n (q := 1) rfl (by decide +kernel))) <|
  zA_c (zk_S zq_3 zw_39 (by decide +kernel)) <|
  zA_c (zOk_sn zn_newa (zs_newi zw_49 (by decide +kernel))) <|
  zA_c (zOk_sn zn_putR (zs_putR (k := 0) rfl (by decide) (by decide +kernel) rfl rfl rfl rfl (by decide +kernel) zw_42)) <|
  zA_c (zs_vret (by decide +kernel) rfl) <|
  zA_n
def zc_2 : Nat → zmI := zgetC [zcl_2_0]
theorem zmf_2 (l : Launch) : zMf l zc_2 2 := ⟨by decide +kernel, true, fun _ => rfl, fun pc => zgetC_ok (zA2_c (zmc_2_0 l) (zA2_n)) pc⟩
def zcl_3_0 : List (Nat × zmI) := [(0, zm_iload 1 0), (1, zm_iload 2 1), (2, zm_iclt 5 9), (5, zm_iload 6 0), (6, zm_goto 10), (9, zm_iload 10 1), (10, zm_iret)]
theorem zmc_3_0 (l : Launch) : zAll l "java/lang/Math" prog_18_method_65_code 2 false (some .int) zcl_3_0 :=
  zA_c (zOk_fl zn_iload (zs_iload_n (q := 0) rfl (by decide +kernel))) <|
  zA_c (zOk_fl zn_iload (zs_iload_n (q := 1) rfl (by decide +kernel))) <|
  zA_c (zOk_fl zn_iclt (zs_iclt (off := 7) (by decide +kernel) (by decide))) <|
  zA_c (zOk_fl zn_iload (zs_iload_n (q := 0) rfl (by decide +kernel))) <|
  zA_c (zOk_fl zn_goto (zs_goto (off := 4) (by decide +kernel) (by decide))) <|
  zA_c (zOk_fl zn_iload (zs_iload_n (q := 1) rfl (by decide +kernel))) <|
  zA_c (zs_iret (by decide +kernel) rfl) <|
  zA_n
def zc_3 : Nat → zmI := zgetC [zcl_3_0]
theorem zmf_3 (l : Launch) : zMf l zc_3 3 := ⟨by decide +kernel, false, (fun h => by cases h), fun pc => zgetC_ok (zA2_c (zmc_3_0 l) (zA2_n)) pc⟩
def zcl_4_0 : List (Nat × zmI) := [(0, zm_aload 1 0), (1, zm_obj 4), (4, zm_aload 5 0), (5, zm_push 7 64), (7, zm_newa 9 100), (9, zm_putR 12 2 0), (12, zm_aload 13 0), (13, zm_getR 16 2 0), (16, zm_push 17 0), (17, zm_push 19 6), (19, zm_iast 20), (20, zm_aload 21 0), (21, zm_getR 24 2 0), (24, zm_push 26 63), (26, zm_push 28 (-6)), (28, zm_iast 29), (29, zm_aload 30 0), (30, zm_push 31 0), (31, zm_putI 34 2 2)]
theorem zmc_4_0 (l : Launch) : zAll l "ChessWire$Board" prog_2_method_1_code 1 true (none) zcl_4_0 :=
  zA_c (zOk_fl zn_aload (zs_aload_n (q := 0) rfl (by decide +kernel))) <|
  zA_c (zOk_fl zn_obj (zs_obj (by decide +kernel) zw_55 zw_30 zw_objc)) <|
  zA_c (zOk_fl zn_aload (zs_aload_n (q := 0) rfl (by decide +kernel))) <|
  zA_c (zOk_fl zn_push (zs_bipush (n := 64) (by decide +kernel) rfl)) <|
  zA_c (zOk_sn zn_newa (zs_newi zw_49 (by decide +kernel))) <|
  zA_c (zOk_sn zn_putR (zs_putR (k := 0) rfl (by decide) (by decide +kernel) rfl rfl rfl rfl (by decide +kernel) zw_56)) <|
  zA_c (zOk_fl zn_aload (zs_aload_n (q := 0) rfl (by decide +kernel))) <|
  zA_c (zOk_fl zn_getR (zs_getR (k := 0) rfl (by decide) (by decide +kernel) rfl (by decide +kernel) zw_56)) <|
  zA_c (zOk_fl zn_push (zs_iconst (n := 0) (by decide +kernel) rfl)) <|
  zA_c (zOk_fl zn_push (zs_bipush (n := 6) (by decide +kernel) rfl)) <|
  zA_c (zOk_sn zn_iast (zs_iast (by decide +kernel))) <|
  zA_c (zOk_fl zn_aload (zs_aload_n (q := 0) rfl (by decide +kernel))) <|
  zA_c (zOk_fl zn_getR (zs_getR (k := 0) rfl (by decide) (by decide +kernel) rfl (by decide +kernel) zw_56)) <|
  zA_c (zOk_fl zn_push (zs_bipush (n := 63) (by decide +kernel) rfl)) <|
  zA_c (zOk_fl zn_push (zs_bipush (n := (-6)) (by decide +kernel) rfl)) <|
  zA_c (zOk_sn zn_iast (zs_iast (by decide +kernel))) <|
  zA_c (zOk_fl zn_aload (zs_aload_n (q := 0) rfl (by decide +kernel))) <|
  zA_c (zOk_fl zn_push (zs_iconst (n := 0) (by decide +kernel) rfl)) <|
  zA_c (zOk_sn zn_putI (zs_putI (k := 2) rfl (by decide) (by decide +kernel) rfl rfl (by decide +kernel) zw_58)) <|
  zA_n
def zcl_4_1 : List (Nat × zmI) := [(34, zm_aload 35 0), (35, zm_push 37 63), (37, zm_putI 40 2 3), (40, zm_vret)]
theorem zmc_4_1 (l : Launch) : zAll l "ChessWire$Board" prog_2_method_1_code 1 true (none) zcl_4_1 :=
  zA_c (zOk_fl zn_aload (zs_aload_n (q := 0) rfl (by decide +kernel))) <|
  zA_c (zOk_fl zn_push (zs_bipush (n := 63) (by decide +kernel) rfl)) <|
  zA_c (zOk_sn zn_putI (zs_putI (k := 3) rfl (by decide) (by decide +kernel) rfl rfl (by decide +kernel) zw_59)) <|
  zA_c (zs_vret (by decide +kernel) rfl) <|
  zA_n
def zc_4 : Nat → zmI := zgetC [zcl_4_0, zcl_4_1]
theorem zmf_4 (l : Launch) : zMf l zc_4 4 := ⟨by decide +kernel, true, fun _ => rfl, fun pc => zgetC_ok (zA2_c (zmc_4_0 l) (zA2_c (zmc_4_1 l) (zA2_n))) pc⟩
def zcl_5_0 : List (Nat × zmI) := [(0, zm_aload 1 0), (1, zm_obj 4), (4, zm_aload 5 0), (5, zm_push 6 0), (6, zm_putI 9 3 2), (9, zm_vret)]
theorem zmc_5_0 (l : Launch) : zAll l "ChessWire$BoardReader" prog_3_method_1_code 1 true (none) zcl_5_0 :=
  zA_c (zOk_fl zn_aload (zs_aload_n (q := 0) rfl (by decide +kernel))) <|
  zA_c (zOk_fl zn_obj (zs_obj (by decide +kernel) zw_74 zw_30 zw_objc)) <|
  zA_c (zOk_fl zn_aload (zs_aload_n (q := 0) rfl (by decide +kernel))) <|
  zA_c (zOk_fl zn_push (zs_iconst (n := 0) (by decide +kernel) rfl)) <|
  zA_c (zOk_sn zn_putI (zs_putI (k := 2) rfl (by decide) (by decide +kernel) rfl rfl (by decide +kernel) zw_77)) <|
  zA_c (zs_vret (by decide +kernel) rfl) <|
  zA_n
def zc_5 : Nat → zmI := zgetC [zcl_5_0]
theorem zmf_5 (l : Launch) : zMf l zc_5 5 := ⟨by decide +kernel, true, fun _ => rfl, fun pc => zgetC_ok (zA2_c (zmc_5_0 l) (zA2_n)) pc⟩
def zcl_6_0 : List (Nat × zmI) := [(0, zm_aload 1 0), (1, zm_obj 4), (4, zm_aload 5 0), (5, zm_push 6 1), (6, zm_putZ 9 4 2), (9, zm_vret)]
theorem zmc_6_0 (l : Launch) : zAll l "ChessWire$Saying" prog_10_method_1_code 1 true (none) zcl_6_0 :=
  zA_c (zOk_fl zn_aload (zs_aload_n (q := 0) rfl (by decide +kernel))) <|
  zA_c (zOk_fl zn_obj (zs_obj (by decide +kernel) zw_90 zw_30 zw_objc)) <|
  zA_c (zOk_fl zn_aload (zs_aload_n (q := 0) rfl (by decide +kernel))) <|
  zA_c (zOk_fl zn_push (zs_iconst (n := 1) (by decide +kernel) rfl)) <|
  zA_c (zOk_sn zn_putZ (zs_putZ (k := 2) rfl (by decide) (by decide +kernel) rfl rfl (by decide +kernel) zw_93)) <|
  zA_c (zs_vret (by decide +kernel) rfl) <|
  zA_n
def zc_6 : Nat → zmI := zgetC [zcl_6_0]
theorem zmf_6 (l : Launch) : zMf l zc_6 6 := ⟨by decide +kernel, true, fun _ => rfl, fun pc => zgetC_ok (zA2_c (zmc_6_0 l) (zA2_n)) pc⟩
def zcl_7_0 : List (Nat × zmI) := [(0, zm_aload 1 0), (1, zm_obj 4), (4, zm_push 5 0), (5, zm_iload 6 1), (6, zm_call 9 3 2 true 99), (9, zm_istore 10 2), (10, zm_aload 11 0), (11, zm_iload 12 2), (12, zm_newa 14 100), (14, zm_putR 17 5 0), (17, zm_aload 18 0), (18, zm_iload 19 2), (19, zm_newa 21 100), (21, zm_putR 24 5 1), (24, zm_aload 25 0), (25, zm_iload 26 2), (26, zm_newa 28 100), (28, zm_putR 31 5 2), (31, zm_vret)]
theorem zmc_7_0 (l : Launch) : zAll l "ChessWire$MoveList" prog_8_method_1_code 3 true (none) zcl_7_0 :=
  zA_c (zOk_fl zn_aload (zs_aload_n (q := 0) rfl (by decide +kernel))) <|
  zA_c (zOk_fl zn_obj (zs_obj (by decide +kernel) zw_106 zw_30 zw_objc)) <|
  zA_c (zOk_fl zn_push (zs_iconst (n := 0) (by decide +kernel) rfl)) <|
  zA_c (zOk_fl zn_iload (zs_iload_n (q := 1) rfl (by decide +kernel))) <|
  zA_c (zk_S zq_3 zw_107 (by decide +kernel)) <|
  zA_c (zOk_fl zn_istore (zs_istore_n (q := 2) rfl (by decide +kernel))) <|
  zA_c (zOk_fl zn_aload (zs_aload_n (q := 0) rfl (by decide +kernel))) <|
  zA_c (zOk_fl zn_iload (zs_iload_n (q := 2) rfl (by decide +kernel))) <|
  zA_c (zOk_sn zn_newa (zs_newi zw_49 (by decide +kernel))) <|
  zA_c (zOk_sn zn_putR (zs_putR (k := 0) rfl (by decide) (by decide +kernel) rfl rfl rfl rfl (by decide +kernel) zw_108)) <|
  zA_c (zOk_fl zn_aload (zs_aload_n (q := 0) rfl (by decide +kernel))) <|
  zA_c (zOk_fl zn_iload (zs_iload_n (q := 2) rfl (by decide +kernel))) <|
  zA_c (zOk_sn zn_newa (zs_newi zw_49 (by decide +kernel))) <|
  zA_c (zOk_sn zn_putR (zs_putR (k := 1) rfl (by decide) (by decide +kernel) rfl rfl rfl rfl (by decide +kernel) zw_109)) <|
  zA_c (zOk_fl zn_aload (zs_aload_n (q := 0) rfl (by decide +kernel))) <|
  zA_c (zOk_fl zn_iload (zs_iload_n (q := 2) rfl (by decide +kernel))) <|
  zA_c (zOk_sn zn_newa (zs_newi zw_49 (by decide +kernel))) <|
  zA_c (zOk_sn zn_putR (zs_putR (k := 2) rfl (by decide) (by decide +kernel) rfl rfl rfl rfl (by decide +kernel) zw_110)) <|
  zA_c (zs_vret (by decide +kernel) rfl) <|
  zA_n
def zc_7 : Nat → zmI := zgetC [zcl_7_0]
theorem zmf_7 (l : Launch) : zMf l zc_7 7 := ⟨by decide +kernel, true, fun _ => rfl, fun pc => zgetC_ok (zA2_c (zmc_7_0 l) (zA2_n)) pc⟩
def zcl_8_0 : List (Nat × zmI) := [(0, zm_aload 1 0), (1, zm_obj 4), (4, zm_aload 5 0), (5, zm_push 8 3072), (8, zm_newa 10 100), (10, zm_putR 13 6 0), (13, zm_vret)]
theorem zmc_8_0 (l : Launch) : zAll l "ChessWire$Namer" prog_9_method_1_code 1 true (none) zcl_8_0 :=
  zA_c (zOk_fl zn_aload (zs_aload_n (q := 0) rfl (by decide +kernel))) <|
  zA_c (zOk_fl zn_obj (zs_obj (by decide +kernel) zw_126 zw_30 zw_objc)) <|
  zA_c (zOk_fl zn_aload (zs_aload_n (q := 0) rfl (by decide +kernel))) <|
  zA_c (zOk_fl zn_push (zs_sipush (n := 3072) (by decide +kernel) rfl)) <|
  zA_c (zOk_sn zn_newa (zs_newi zw_49 (by decide +kernel))) <|
  zA_c (zOk_sn zn_putR (zs_putR (k := 0) rfl (by decide) (by decide +kernel) rfl rfl rfl rfl (by decide +kernel) zw_127)) <|
  zA_c (zs_vret (by decide +kernel) rfl) <|
  zA_n
def zc_8 : Nat → zmI := zgetC [zcl_8_0]
theorem zmf_8 (l : Launch) : zMf l zc_8 8 := ⟨by decide +kernel, true, fun _ => rfl, fun pc => zgetC_ok (zA2_c (zmc_8_0 l) (zA2_n)) pc⟩
def zcl_9_0 : List (Nat × zmI) := [(0, zm_aload 1 0), (1, zm_obj 4), (4, zm_aload 5 0), (5, zm_push 8 666), (8, zm_newa 10 100), (10, zm_putR 13 7 0), (13, zm_aload 14 0), (14, zm_push 17 666), (17, zm_newa 19 100), (19, zm_putR 22 7 1), (22, zm_vret)]
theorem zmc_9_0 (l : Launch) : zAll l "ChessWire$Coder" prog_4_method_1_code 1 true (none) zcl_9_0 :=
  zA_c (zOk_fl zn_aload (zs_aload_n (q := 0) rfl (by decide +kernel))) <|
  zA_c (zOk_fl zn_obj (zs_obj (by decide +kernel) zw_136 zw_30 zw_objc)) <|
  zA_c (zOk_fl zn_aload (zs_aload_n (q := 0) rfl (by decide +kernel))) <|
  zA_c (zOk_fl zn_push (zs_sipush (n := 666) (by decide +kernel) rfl)) <|
  zA_c (zOk_sn zn_newa (zs_newi zw_49 (by decide +kernel))) <|
  zA_c (zOk_sn zn_putR (zs_putR (k := 0) rfl (by decide) (by decide +kernel) rfl rfl rfl rfl (by decide +kernel) zw_137)) <|
  zA_c (zOk_fl zn_aload (zs_aload_n (q := 0) rfl (by decide +kernel))) <|
  zA_c (zOk_fl zn_push (zs_sipush (n := 666) (by decide +kernel) rfl)) <|
  zA_c (zOk_sn zn_newa (zs_newi zw_49 (by decide +kernel))) <|
  zA_c (zOk_sn zn_putR (zs_putR (k := 1) rfl (by decide) (by decide +kernel) rfl rfl rfl rfl (by decide +kernel) zw_138)) <|
  zA_c (zs_vret (by decide +kernel) rfl) <|
  zA_n
def zc_9 : Nat → zmI := zgetC [zcl_9_0]
theorem zmf_9 (l : Launch) : zMf l zc_9 9 := ⟨by decide +kernel, true, fun _ => rfl, fun pc => zgetC_ok (zA2_c (zmc_9_0 l) (zA2_n)) pc⟩
def zcl_10_0 : List (Nat × zmI) := [(0, zm_aload 1 0), (1, zm_obj 4), (4, zm_aload 5 0), (5, zm_new 8 6 1), (8, zm_dup 9), (9, zm_call 12 8 1 false 6), (12, zm_putR 15 8 0), (15, zm_aload 16 0), (16, zm_push 18 6), (18, zm_newa 20 100), (20, zm_putR 23 8 1), (23, zm_aload 24 0), (24, zm_new 27 4 3), (27, zm_dup 28), (28, zm_call 31 6 1 false 4), (31, zm_putR 34 8 2)]
theorem zmc_10_0 (l : Launch) : zAll l "ChessWire$Foresight" prog_6_method_1_code 1 true (none) zcl_10_0 :=
  zA_c (zOk_fl zn_aload (zs_aload_n (q := 0) rfl (by decide +kernel))) <|
  zA_c (zOk_fl zn_obj (zs_obj (by decide +kernel) zw_161 zw_30 zw_objc)) <|
  zA_c (zOk_fl zn_aload (zs_aload_n (q := 0) rfl (by decide +kernel))) <|
  zA_c (zOk_sn zn_new (zs_new (by decide) (by decide +kernel) (by decide +kernel) zw_162 zw_122 zw_8)) <|
  zA_c (zOk_fl zn_dup (zs_dup (by decide +kernel))) <|
  zA_c (zk_I zq_8 zw_163 rfl (by decide +kernel)) <|
  zA_c (zOk_sn zn_putR (zs_putR (k := 0) rfl (by decide) (by decide +kernel) rfl rfl rfl rfl (by decide +kernel) zw_170)) <|
  zA_c (zOk_fl zn_aload (zs_aload_n (q := 0) rfl (by decide +kernel))) <|
  zA_c (zOk_fl zn_push (zs_bipush (n := 6) (by decide +kernel) rfl)) <|
  zA_c (zOk_sn zn_newa (zs_newi zw_49 (by decide +kernel))) <|
  zA_c (zOk_sn zn_putR (zs_putR (k := 1) rfl (by decide) (by decide +kernel) rfl rfl rfl rfl (by decide +kernel) zw_171)) <|
  zA_c (zOk_fl zn_aload (zs_aload_n (q := 0) rfl (by decide +kernel))) <|
  zA_c (zOk_sn zn_new (zs_new (by decide) (by decide +kernel) (by decide +kernel) zw_164 zw_86 zw_6)) <|
  zA_c (zOk_fl zn_dup (zs_dup (by decide +kernel))) <|
  zA_c (zk_I zq_6 zw_165 rfl (by decide +kernel)) <|
  zA_c (zOk_sn zn_putR (zs_putR (k := 2) rfl (by decide) (by decide +kernel) rfl rfl rfl rfl (by decide +kernel) zw_172)) <|
  zA_n
def zcl_10_1 : List (Nat × zmI) := [(34, zm_aload 35 0), (35, zm_new 38 2 4), (38, zm_dup 39), (39, zm_call 42 4 1 false 2), (42, zm_putR 45 8 3), (45, zm_aload 46 0), (46, zm_new 49 2 4), (49, zm_dup 50), (50, zm_call 53 4 1 false 2), (53, zm_putR 56 8 4), (56, zm_aload 57 0), (57, zm_new 60 5 4), (60, zm_dup 61), (61, zm_push 64 640)]
theorem zmc_10_1 (l : Launch) : zAll l "ChessWire$Foresight" prog_6_method_1_code 1 true (none) zcl_10_1 :=
  zA_c (zOk_fl zn_aload (zs_aload_n (q := 0) rfl (by decide +kernel))) <|
  zA_c (zOk_sn zn_new (zs_new (by decide) (by decide +kernel) (by decide +kernel) zw_166 zw_51 zw_4)) <|
  zA_c (zOk_fl zn_dup (zs_dup (by decide +kernel))) <|
  zA_c (zk_I zq_4 zw_167 rfl (by decide +kernel)) <|
  zA_c (zOk_sn zn_putR (zs_putR (k := 3) rfl (by decide) (by decide +kernel) rfl rfl rfl rfl (by decide +kernel) zw_173)) <|
  zA_c (zOk_fl zn_aload (zs_aload_n (q := 0) rfl (by decide +kernel))) <|
  zA_c (zOk_sn zn_new (zs_new (by decide) (by decide +kernel) (by decide +kernel) zw_166 zw_51 zw_4)) <|
  zA_c (zOk_fl zn_dup (zs_dup (by decide +kernel))) <|
  zA_c (zk_I zq_4 zw_167 rfl (by decide +kernel)) <|
  zA_c (zOk_sn zn_putR (zs_putR (k := 4) rfl (by decide) (by decide +kernel) rfl rfl rfl rfl (by decide +kernel) zw_174)) <|
  zA_c (zOk_fl zn_aload (zs_aload_n (q := 0) rfl (by decide +kernel))) <|
  zA_c (zOk_sn zn_new (zs_new (by decide) (by decide +kernel) (by decide +kernel) zw_168 zw_102 zw_7)) <|
  zA_c (zOk_fl zn_dup (zs_dup (by decide +kernel))) <|
  zA_c (zOk_fl zn_push (zs_sipush (n := 640) (by decide +kernel) rfl)) <|
  zA_n
def zcl_10_2 : List (Nat × zmI) := [(64, zm_call 67 7 2 false 5), (67, zm_putR 70 8 5), (70, zm_aload 71 0), (71, zm_new 74 5 4), (74, zm_dup 75), (75, zm_push 78 640), (78, zm_call 81 7 2 false 5), (81, zm_putR 84 8 6), (84, zm_aload 85 0), (85, zm_push 87 9), (87, zm_newa 89 100), (89, zm_putR 92 8 7), (92, zm_aload 93 0), (93, zm_push 95 9), (95, zm_newa 97 100)]
theorem zmc_10_2 (l : Launch) : zAll l "ChessWire$Foresight" prog_6_method_1_code 1 true (none) zcl_10_2 :=
  zA_c (zk_I zq_7 zw_169 rfl (by decide +kernel)) <|
  zA_c (zOk_sn zn_putR (zs_putR (k := 5) rfl (by decide) (by decide +kernel) rfl rfl rfl rfl (by decide +kernel) zw_175)) <|
  zA_c (zOk_fl zn_aload (zs_aload_n (q := 0) rfl (by decide +kernel))) <|
  zA_c (zOk_sn zn_new (zs_new (by decide) (by decide +kernel) (by decide +kernel) zw_168 zw_102 zw_7)) <|
  zA_c (zOk_fl zn_dup (zs_dup (by decide +kernel))) <|
  zA_c (zOk_fl zn_push (zs_sipush (n := 640) (by decide +kernel) rfl)) <|
  zA_c (zk_I zq_7 zw_169 rfl (by decide +kernel)) <|
  zA_c (zOk_sn zn_putR (zs_putR (k := 6) rfl (by decide) (by decide +kernel) rfl rfl rfl rfl (by decide +kernel) zw_176)) <|
  zA_c (zOk_fl zn_aload (zs_aload_n (q := 0) rfl (by decide +kernel))) <|
  zA_c (zOk_fl zn_push (zs_bipush (n := 9) (by decide +kernel) rfl)) <|
  zA_c (zOk_sn zn_newa (zs_newi zw_49 (by decide +kernel))) <|
  zA_c (zOk_sn zn_putR (zs_putR (k := 7) rfl (by decide) (by decide +kernel) rfl rfl rfl rfl (by decide +kernel) zw_177)) <|
  zA_c (zOk_fl zn_aload (zs_aload_n (q := 0) rfl (by decide +kernel))) <|
  zA_c (zOk_fl zn_push (zs_bipush (n := 9) (by decide +kernel) rfl)) <|
  zA_c (zOk_sn zn_newa (zs_newi zw_49 (by decide +kernel))) <|
  zA_n
def zcl_10_3 : List (Nat × zmI) := [(97, zm_putR 100 8 8), (100, zm_vret)]
theorem zmc_10_3 (l : Launch) : zAll l "ChessWire$Foresight" prog_6_method_1_code 1 true (none) zcl_10_3 :=
  zA_c (zOk_sn zn_putR (zs_putR (k := 8) rfl (by decide) (by decide +kernel) rfl rfl rfl rfl (by decide +kernel) zw_178)) <|
  zA_c (zs_vret (by decide +kernel) rfl) <|
  zA_n
def zc_10 : Nat → zmI := zgetC [zcl_10_0, zcl_10_1, zcl_10_2, zcl_10_3]
theorem zmf_10 (l : Launch) : zMf l zc_10 10 := ⟨by decide +kernel, true, fun _ => rfl, fun pc => zgetC_ok (zA2_c (zmc_10_0 l) (zA2_c (zmc_10_1 l) (zA2_c (zmc_10_2 l) (zA2_c (zmc_10_3 l) (zA2_n))))) pc⟩
def zcl_11_0 : List (Nat × zmI) := [(0, zm_aload 1 0), (1, zm_obj 4), (4, zm_aload 5 0), (5, zm_push 7 12), (7, zm_newa 10 104), (10, zm_putR 13 9 0), (13, zm_push 14 0), (14, zm_istore 15 1), (15, zm_iload 16 1), (16, zm_push 18 12), (18, zm_icge 21 40), (21, zm_aload 22 0), (22, zm_getR 25 9 0), (25, zm_iload 26 1), (26, zm_new 29 4 3), (29, zm_dup 30), (30, zm_call 33 6 1 false 4)]
theorem zmc_11_0 (l : Launch) : zAll l "ChessWire$Game" prog_7_method_1_code 2 true (none) zcl_11_0 :=
  zA_c (zOk_fl zn_aload (zs_aload_n (q := 0) rfl (by decide +kernel))) <|
  zA_c (zOk_fl zn_obj (zs_obj (by decide +kernel) zw_212 zw_30 zw_objc)) <|
  zA_c (zOk_fl zn_aload (zs_aload_n (q := 0) rfl (by decide +kernel))) <|
  zA_c (zOk_fl zn_push (zs_bipush (n := 12) (by decide +kernel) rfl)) <|
  zA_c (zOk_sn zn_newa (zs_newq (t := 4) (by decide) (by decide) rfl (fun s h => h.2.1) rfl (by decide +kernel) zw_213)) <|
  zA_c (zOk_sn zn_putR (zs_putR (k := 0) rfl (by decide) (by decide +kernel) rfl rfl rfl rfl (by decide +kernel) zw_220)) <|
  zA_c (zOk_fl zn_push (zs_iconst (n := 0) (by decide +kernel) rfl)) <|
  zA_c (zOk_fl zn_istore (zs_istore_n (q := 1) rfl (by decide +kernel))) <|
  zA_c (zOk_fl zn_iload (zs_iload_n (q := 1) rfl (by decide +kernel))) <|
  zA_c (zOk_fl zn_push (zs_bipush (n := 12) (by decide +kernel) rfl)) <|
  zA_c (zOk_fl zn_icge (zs_icge (off := 22) (by decide +kernel) (by decide))) <|
  zA_c (zOk_fl zn_aload (zs_aload_n (q := 0) rfl (by decide +kernel))) <|
  zA_c (zOk_fl zn_getR (zs_getR (k := 0) rfl (by decide) (by decide +kernel) rfl (by decide +kernel) zw_220)) <|
  zA_c (zOk_fl zn_iload (zs_iload_n (q := 1) rfl (by decide +kernel))) <|
  zA_c (zOk_sn zn_new (zs_new (by decide) (by decide +kernel) (by decide +kernel) zw_213 zw_86 zw_6)) <|
  zA_c (zOk_fl zn_dup (zs_dup (by decide +kernel))) <|
  zA_c (zk_I zq_6 zw_215 rfl (by decide +kernel)) <|
  zA_n
def zcl_11_1 : List (Nat × zmI) := [(33, zm_aast 34 104 4), (34, zm_iinc 37 1 1), (37, zm_goto 15), (40, zm_aload 41 0), (41, zm_push 43 12), (43, zm_newa 45 100), (45, zm_putR 48 9 1), (48, zm_aload 49 0), (49, zm_push 51 12), (51, zm_newa 53 100), (53, zm_putR 56 9 2), (56, zm_aload 57 0), (57, zm_new 60 2 4), (60, zm_dup 61), (61, zm_call 64 4 1 false 2)]
theorem zmc_11_1 (l : Launch) : zAll l "ChessWire$Game" prog_7_method_1_code 2 true (none) zcl_11_1 :=
  zA_c (zOk_sn zn_aast (zs_aast (t := 4) (by decide) (by decide) (by decide) rfl rfl (by decide +kernel))) <|
  zA_c (zOk_fl zn_iinc (zs_iinc rfl (by decide +kernel))) <|
  zA_c (zOk_fl zn_goto (zs_goto (off := (-22)) (by decide +kernel) (by decide))) <|
  zA_c (zOk_fl zn_aload (zs_aload_n (q := 0) rfl (by decide +kernel))) <|
  zA_c (zOk_fl zn_push (zs_bipush (n := 12) (by decide +kernel) rfl)) <|
  zA_c (zOk_sn zn_newa (zs_newi zw_49 (by decide +kernel))) <|
  zA_c (zOk_sn zn_putR (zs_putR (k := 1) rfl (by decide) (by decide +kernel) rfl rfl rfl rfl (by decide +kernel) zw_221)) <|
  zA_c (zOk_fl zn_aload (zs_aload_n (q := 0) rfl (by decide +kernel))) <|
  zA_c (zOk_fl zn_push (zs_bipush (n := 12) (by decide +kernel) rfl)) <|
  zA_c (zOk_sn zn_newa (zs_newi zw_49 (by decide +kernel))) <|
  zA_c (zOk_sn zn_putR (zs_putR (k := 2) rfl (by decide) (by decide +kernel) rfl rfl rfl rfl (by decide +kernel) zw_222)) <|
  zA_c (zOk_fl zn_aload (zs_aload_n (q := 0) rfl (by decide +kernel))) <|
  zA_c (zOk_sn zn_new (zs_new (by decide) (by decide +kernel) (by decide +kernel) zw_216 zw_51 zw_4)) <|
  zA_c (zOk_fl zn_dup (zs_dup (by decide +kernel))) <|
  zA_c (zk_I zq_4 zw_217 rfl (by decide +kernel)) <|
  zA_n
def zcl_11_2 : List (Nat × zmI) := [(64, zm_putR 67 9 3), (67, zm_aload 68 0), (68, zm_new 71 5 4), (71, zm_dup 72), (72, zm_push 73 2), (73, zm_call 76 7 2 false 5), (76, zm_putR 79 9 4), (79, zm_vret)]
theorem zmc_11_2 (l : Launch) : zAll l "ChessWire$Game" prog_7_method_1_code 2 true (none) zcl_11_2 :=
  zA_c (zOk_sn zn_putR (zs_putR (k := 3) rfl (by decide) (by decide +kernel) rfl rfl rfl rfl (by decide +kernel) zw_223)) <|
  zA_c (zOk_fl zn_aload (zs_aload_n (q := 0) rfl (by decide +kernel))) <|
  zA_c (zOk_sn zn_new (zs_new (by decide) (by decide +kernel) (by decide +kernel) zw_218 zw_102 zw_7)) <|
  zA_c (zOk_fl zn_dup (zs_dup (by decide +kernel))) <|
  zA_c (zOk_fl zn_push (zs_iconst (n := 2) (by decide +kernel) rfl)) <|
  zA_c (zk_I zq_7 zw_219 rfl (by decide +kernel)) <|
  zA_c (zOk_sn zn_putR (zs_putR (k := 4) rfl (by decide) (by decide +kernel) rfl rfl rfl rfl (by decide +kernel) zw_224)) <|
  zA_c (zs_vret (by decide +kernel) rfl) <|
  zA_n
def zc_11 : Nat → zmI := zgetC [zcl_11_0, zcl_11_1, zcl_11_2]
theorem zmf_11 (l : Launch) : zMf l zc_11 11 := ⟨by decide +kernel, true, fun _ => rfl, fun pc => zgetC_ok (zA2_c (zmc_11_0 l) (zA2_c (zmc_11_1 l) (zA2_c (zmc_11_2 l) (zA2_n)))) pc⟩
def zcl_12_0 : List (Nat × zmI) := [(0, zm_aload 1 0), (1, zm_obj 4), (4, zm_aload 5 0), (5, zm_push 6 3), (6, zm_newa 9 105), (9, zm_dup 10), (10, zm_push 11 0), (11, zm_new 14 2 4), (14, zm_dup 15), (15, zm_call 18 4 1 false 2), (18, zm_aast 19 105 2), (19, zm_dup 20), (20, zm_push 21 1), (21, zm_new 24 2 4), (24, zm_dup 25), (25, zm_call 28 4 1 false 2), (28, zm_aast 29 105 2), (29, zm_dup 30), (30, zm_push 31 2), (31, zm_new 34 2 4)]
theorem zmc_12_0 (l : Launch) : zAll l "ChessWire$Dispute" prog_5_method_1_code 1 true (none) zcl_12_0 :=
  zA_c (zOk_fl zn_aload (zs_aload_n (q := 0) rfl (by decide +kernel))) <|
  zA_c (zOk_fl zn_obj (zs_obj (by decide +kernel) zw_247 zw_30 zw_objc)) <|
  zA_c (zOk_fl zn_aload (zs_aload_n (q := 0) rfl (by decide +kernel))) <|
  zA_c (zOk_fl zn_push (zs_iconst (n := 3) (by decide +kernel) rfl)) <|
  zA_c (zOk_sn zn_newa (zs_newq (t := 5) (by decide) (by decide) rfl (fun s h => h.2.2.1) rfl (by decide +kernel) zw_248)) <|
  zA_c (zOk_fl zn_dup (zs_dup (by decide +kernel))) <|
  zA_c (zOk_fl zn_push (zs_iconst (n := 0) (by decide +kernel) rfl)) <|
  zA_c (zOk_sn zn_new (zs_new (by decide) (by decide +kernel) (by decide +kernel) zw_248 zw_51 zw_4)) <|
  zA_c (zOk_fl zn_dup (zs_dup (by decide +kernel))) <|
  zA_c (zk_I zq_4 zw_250 rfl (by decide +kernel)) <|
  zA_c (zOk_sn zn_aast (zs_aast (t := 5) (by decide) (by decide) (by decide) rfl rfl (by decide +kernel))) <|
  zA_c (zOk_fl zn_dup (zs_dup (by decide +kernel))) <|
  zA_c (zOk_fl zn_push (zs_iconst (n := 1) (by decide +kernel) rfl)) <|
  zA_c (zOk_sn zn_new (zs_new (by decide) (by decide +kernel) (by decide +kernel) zw_248 zw_51 zw_4)) <|
  zA_c (zOk_fl zn_dup (zs_dup (by decide +kernel))) <|
  zA_c (zk_I zq_4 zw_250 rfl (by decide +kernel)) <|
  zA_c (zOk_sn zn_aast (zs_aast (t := 5) (by decide) (by decide) (by decide) rfl rfl (by decide +kernel))) <|
  zA_c (zOk_fl zn_dup (zs_dup (by decide +kernel))) <|
  zA_c (zOk_fl zn_push (zs_iconst (n := 2) (by decide +kernel) rfl)) <|
  zA_c (zOk_sn zn_new (zs_new (by decide) (by decide +kernel) (by decide +kernel) zw_248 zw_51 zw_4)) <|
  zA_n
def zcl_12_1 : List (Nat × zmI) := [(34, zm_dup 35), (35, zm_call 38 4 1 false 2), (38, zm_aast 39 105 2), (39, zm_putR 42 10 0), (42, zm_aload 43 0), (43, zm_push 44 3), (44, zm_newa 47 106), (47, zm_dup 48), (48, zm_push 49 0), (49, zm_new 52 5 4), (52, zm_dup 53), (53, zm_push 55 41), (55, zm_call 58 7 2 false 5), (58, zm_aast 59 106 5), (59, zm_dup 60), (60, zm_push 61 1), (61, zm_new 64 5 4)]
theorem zmc_12_1 (l : Launch) : zAll l "ChessWire$Dispute" prog_5_method_1_code 1 true (none) zcl_12_1 :=
  zA_c (zOk_fl zn_dup (zs_dup (by decide +kernel))) <|
  zA_c (zk_I zq_4 zw_250 rfl (by decide +kernel)) <|
  zA_c (zOk_sn zn_aast (zs_aast (t := 5) (by decide) (by decide) (by decide) rfl rfl (by decide +kernel))) <|
  zA_c (zOk_sn zn_putR (zs_putR (k := 0) rfl (by decide) (by decide +kernel) rfl rfl rfl rfl (by decide +kernel) zw_254)) <|
  zA_c (zOk_fl zn_aload (zs_aload_n (q := 0) rfl (by decide +kernel))) <|
  zA_c (zOk_fl zn_push (zs_iconst (n := 3) (by decide +kernel) rfl)) <|
  zA_c (zOk_sn zn_newa (zs_newq (t := 6) (by decide) (by decide) rfl (fun s h => h.2.2.2.1) rfl (by decide +kernel) zw_251)) <|
  zA_c (zOk_fl zn_dup (zs_dup (by decide +kernel))) <|
  zA_c (zOk_fl zn_push (zs_iconst (n := 0) (by decide +kernel) rfl)) <|
  zA_c (zOk_sn zn_new (zs_new (by decide) (by decide +kernel) (by decide +kernel) zw_251 zw_102 zw_7)) <|
  zA_c (zOk_fl zn_dup (zs_dup (by decide +kernel))) <|
  zA_c (zOk_fl zn_push (zs_bipush (n := 41) (by decide +kernel) rfl)) <|
  zA_c (zk_I zq_7 zw_253 rfl (by decide +kernel)) <|
  zA_c (zOk_sn zn_aast (zs_aast (t := 6) (by decide) (by decide) (by decide) rfl rfl (by decide +kernel))) <|
  zA_c (zOk_fl zn_dup (zs_dup (by decide +kernel))) <|
  zA_c (zOk_fl zn_push (zs_iconst (n := 1) (by decide +kernel) rfl)) <|
  zA_c (zOk_sn zn_new (zs_new (by decide) (by decide +kernel) (by decide +kernel) zw_251 zw_102 zw_7)) <|
  zA_n
def zcl_12_2 : List (Nat × zmI) := [(64, zm_dup 65), (65, zm_push 67 41), (67, zm_call 70 7 2 false 5), (70, zm_aast 71 106 5), (71, zm_dup 72), (72, zm_push 73 2), (73, zm_new 76 5 4), (76, zm_dup 77), (77, zm_push 79 41), (79, zm_call 82 7 2 false 5), (82, zm_aast 83 106 5), (83, zm_putR 86 10 1), (86, zm_aload 87 0), (87, zm_push 88 3), (88, zm_newa 90 100), (90, zm_putR 93 10 2), (93, zm_aload 94 0), (94, zm_push 95 3), (95, zm_newa 97 100)]
theorem zmc_12_2 (l : Launch) : zAll l "ChessWire$Dispute" prog_5_method_1_code 1 true (none) zcl_12_2 :=
  zA_c (zOk_fl zn_dup (zs_dup (by decide +kernel))) <|
  zA_c (zOk_fl zn_push (zs_bipush (n := 41) (by decide +kernel) rfl)) <|
  zA_c (zk_I zq_7 zw_253 rfl (by decide +kernel)) <|
  zA_c (zOk_sn zn_aast (zs_aast (t := 6) (by decide) (by decide) (by decide) rfl rfl (by decide +kernel))) <|
  zA_c (zOk_fl zn_dup (zs_dup (by decide +kernel))) <|
  zA_c (zOk_fl zn_push (zs_iconst (n := 2) (by decide +kernel) rfl)) <|
  zA_c (zOk_sn zn_new (zs_new (by decide) (by decide +kernel) (by decide +kernel) zw_251 zw_102 zw_7)) <|
  zA_c (zOk_fl zn_dup (zs_dup (by decide +kernel))) <|
  zA_c (zOk_fl zn_push (zs_bipush (n := 41) (by decide +kernel) rfl)) <|
  zA_c (zk_I zq_7 zw_253 rfl (by decide +kernel)) <|
  zA_c (zOk_sn zn_aast (zs_aast (t := 6) (by decide) (by decide) (by decide) rfl rfl (by decide +kernel))) <|
  zA_c (zOk_sn zn_putR (zs_putR (k := 1) rfl (by decide) (by decide +kernel) rfl rfl rfl rfl (by decide +kernel) zw_255)) <|
  zA_c (zOk_fl zn_aload (zs_aload_n (q := 0) rfl (by decide +kernel))) <|
  zA_c (zOk_fl zn_push (zs_iconst (n := 3) (by decide +kernel) rfl)) <|
  zA_c (zOk_sn zn_newa (zs_newi zw_49 (by decide +kernel))) <|
  zA_c (zOk_sn zn_putR (zs_putR (k := 2) rfl (by decide) (by decide +kernel) rfl rfl rfl rfl (by decide +kernel) zw_256)) <|
  zA_c (zOk_fl zn_aload (zs_aload_n (q := 0) rfl (by decide +kernel))) <|
  zA_c (zOk_fl zn_push (zs_iconst (n := 3) (by decide +kernel) rfl)) <|
  zA_c (zOk_sn zn_newa (zs_newi zw_49 (by decide +kernel))) <|
  zA_n
def zcl_12_3 : List (Nat × zmI) := [(97, zm_putR 100 10 3), (100, zm_aload 101 0), (101, zm_push 102 3), (102, zm_newa 104 100), (104, zm_putR 107 10 4), (107, zm_aload 108 0), (108, zm_push 111 192), (111, zm_newa 113 101), (113, zm_putR 116 10 5), (116, zm_vret)]
theorem zmc_12_3 (l : Launch) : zAll l "ChessWire$Dispute" prog_5_method_1_code 1 true (none) zcl_12_3 :=
  zA_c (zOk_sn zn_putR (zs_putR (k := 3) rfl (by decide) (by decide +kernel) rfl rfl rfl rfl (by decide +kernel) zw_257)) <|
  zA_c (zOk_fl zn_aload (zs_aload_n (q := 0) rfl (by decide +kernel))) <|
  zA_c (zOk_fl zn_push (zs_iconst (n := 3) (by decide +kernel) rfl)) <|
  zA_c (zOk_sn zn_newa (zs_newi zw_49 (by decide +kernel))) <|
  zA_c (zOk_sn zn_putR (zs_putR (k := 4) rfl (by decide) (by decide +kernel) rfl rfl rfl rfl (by decide +kernel) zw_258)) <|
  zA_c (zOk_fl zn_aload (zs_aload_n (q := 0) rfl (by decide +kernel))) <|
  zA_c (zOk_fl zn_push (zs_sipush (n := 192) (by decide +kernel) rfl)) <|
  zA_c (zOk_sn zn_newa (zs_newl zw_282 (by decide +kernel))) <|
  zA_c (zOk_sn zn_putR (zs_putR (k := 5) rfl (by decide) (by decide +kernel) rfl rfl rfl rfl (by decide +kernel) zw_259)) <|
  zA_c (zs_vret (by decide +kernel) rfl) <|
  zA_n
def zc_12 : Nat → zmI := zgetC [zcl_12_0, zcl_12_1, zcl_12_2, zcl_12_3]
theorem zmf_12 (l : Launch) : zMf l zc_12 12 := ⟨by decide +kernel, true, fun _ => rfl, fun pc => zgetC_ok (zA2_c (zmc_12_0 l) (zA2_c (zmc_12_1 l) (zA2_c (zmc_12_2 l) (zA2_c (zmc_12_3 l) (zA2_n))))) pc⟩
def zcl_13_0 : List (Nat × zmI) := [(0, zm_aload 1 0), (1, zm_obj 4), (4, zm_aload 5 0), (5, zm_push 7 60), (7, zm_newa 9 100), (9, zm_putR 12 11 0), (12, zm_vret)]
theorem zmc_13_0 (l : Launch) : zAll l "ChessWire$Sheet" prog_11_method_1_code 1 true (none) zcl_13_0 :=
  zA_c (zOk_fl zn_aload (zs_aload_n (q := 0) rfl (by decide +kernel))) <|
  zA_c (zOk_fl zn_obj (zs_obj (by decide +kernel) zw_289 zw_30 zw_objc)) <|
  zA_c (zOk_fl zn_aload (zs_aload_n (q := 0) rfl (by decide +kernel))) <|
  zA_c (zOk_fl zn_push (zs_bipush (n := 60) (by decide +kernel) rfl)) <|
  zA_c (zOk_sn zn_newa (zs_newi zw_49 (by decide +kernel))) <|
  zA_c (zOk_sn zn_putR (zs_putR (k := 0) rfl (by decide) (by decide +kernel) rfl rfl rfl rfl (by decide +kernel) zw_290)) <|
  zA_c (zs_vret (by decide +kernel) rfl) <|
  zA_n
def zc_13 : Nat → zmI := zgetC [zcl_13_0]
theorem zmf_13 (l : Launch) : zMf l zc_13 13 := ⟨by decide +kernel, true, fun _ => rfl, fun pc => zgetC_ok (zA2_c (zmc_13_0 l) (zA2_n)) pc⟩
def zcl_14_0 : List (Nat × zmI) := [(0, zm_aload 1 0), (1, zm_iload 2 1), (2, zm_call 5 15 2 true 0), (5, zm_ifne 8 19), (8, zm_iload 9 2), (9, zm_iflt 12 19), (12, zm_iload 13 2), (13, zm_push 16 255), (16, zm_icle 19 22), (19, zm_push 21 (-2)), (21, zm_iret), (22, zm_aload 23 0), (23, zm_getR 26 0 0), (26, zm_iload 27 1), (27, zm_aald 28 103), (28, zm_iload 29 2), (29, zm_call 32 16 2 true 1)]
theorem zmc_14_0 (l : Launch) : zAll l "ChessWire" prog_1_method_2_code 3 false (some .int) zcl_14_0 :=
  zA_c (zOk_fl zn_aload (zs_aload_n (q := 0) rfl (by decide +kernel))) <|
  zA_c (zOk_fl zn_iload (zs_iload_n (q := 1) rfl (by decide +kernel))) <|
  zA_c (zk_V zq_15 zw_359 rfl (by decide +kernel)) <|
  zA_c (zOk_fl zn_ifne (zs_ifne (off := 14) (by decide +kernel) (by decide))) <|
  zA_c (zOk_fl zn_iload (zs_iload_n (q := 2) rfl (by decide +kernel))) <|
  zA_c (zOk_fl zn_iflt (zs_iflt (off := 10) (by decide +kernel) (by decide))) <|
  zA_c (zOk_fl zn_iload (zs_iload_n (q := 2) rfl (by decide +kernel))) <|
  zA_c (zOk_fl zn_push (zs_sipush (n := 255) (by decide +kernel) rfl)) <|
  zA_c (zOk_fl zn_icle (zs_icle (off := 6) (by decide +kernel) (by decide))) <|
  zA_c (zOk_fl zn_push (zs_bipush (n := (-2)) (by decide +kernel) rfl)) <|
  zA_c (zs_iret (by decide +kernel) rfl) <|
  zA_c (zOk_fl zn_aload (zs_aload_n (q := 0) rfl (by decide +kernel))) <|
  zA_c (zOk_fl zn_getR (zs_getR (k := 0) rfl (by decide) (by decide +kernel) rfl (by decide +kernel) zw_303)) <|
  zA_c (zOk_fl zn_iload (zs_iload_n (q := 1) rfl (by decide +kernel))) <|
  zA_c (zOk_fl zn_aald (zs_aald (t := 3) (by decide) (by decide) rfl rfl (by decide +kernel))) <|
  zA_c (zOk_fl zn_iload (zs_iload_n (q := 2) rfl (by decide +kernel))) <|
  zA_c (zk_V zq_16 zw_363 rfl (by decide +kernel)) <|
  zA_n
def zcl_14_1 : List (Nat × zmI) := [(32, zm_ifne 35 38), (35, zm_push 37 (-4)), (37, zm_iret), (38, zm_aload 39 0), (39, zm_iload 40 1), (40, zm_call 43 17 2 false 0), (43, zm_aload 44 0), (44, zm_getR 47 0 0), (47, zm_iload 48 1), (48, zm_aald 49 103), (49, zm_call 52 22 1 true 1), (52, zm_iret)]
theorem zmc_14_1 (l : Launch) : zAll l "ChessWire" prog_1_method_2_code 3 false (some .int) zcl_14_1 :=
  zA_c (zOk_fl zn_ifne (zs_ifne (off := 6) (by decide +kernel) (by decide))) <|
  zA_c (zOk_fl zn_push (zs_bipush (n := (-4)) (by decide +kernel) rfl)) <|
  zA_c (zs_iret (by decide +kernel) rfl) <|
  zA_c (zOk_fl zn_aload (zs_aload_n (q := 0) rfl (by decide +kernel))) <|
  zA_c (zOk_fl zn_iload (zs_iload_n (q := 1) rfl (by decide +kernel))) <|
  zA_c (zk_V zq_17 zw_367 rfl (by decide +kernel)) <|
  zA_c (zOk_fl zn_aload (zs_aload_n (q := 0) rfl (by decide +kernel))) <|
  zA_c (zOk_fl zn_getR (zs_getR (k := 0) rfl (by decide) (by decide +kernel) rfl (by decide +kernel) zw_303)) <|
  zA_c (zOk_fl zn_iload (zs_iload_n (q := 1) rfl (by decide +kernel))) <|
  zA_c (zOk_fl zn_aald (zs_aald (t := 3) (by decide) (by decide) rfl rfl (by decide +kernel))) <|
  zA_c (zk_V zq_22 zw_511 rfl (by decide +kernel)) <|
  zA_c (zs_iret (by decide +kernel) rfl) <|
  zA_n
def zc_14 : Nat → zmI := zgetC [zcl_14_0, zcl_14_1]
theorem zmf_14 (l : Launch) : zMf l zc_14 14 := ⟨by decide +kernel, false, (fun h => by cases h), fun pc => zgetC_ok (zA2_c (zmc_14_0 l) (zA2_c (zmc_14_1 l) (zA2_n))) pc⟩
def zcl_15_0 : List (Nat × zmI) := [(0, zm_iload 1 1), (1, zm_iflt 4 13), (4, zm_iload 5 1), (5, zm_aload 6 0), (6, zm_getR 9 0 0), (9, zm_alen 10), (10, zm_iclt 13 17), (13, zm_push 14 1), (14, zm_goto 18), (17, zm_push 18 0), (18, zm_zret)]
theorem zmc_15_0 (l : Launch) : zAll l "ChessWire" prog_1_method_35_code 2 false (some .boolean) zcl_15_0 :=
  zA_c (zOk_fl zn_iload (zs_iload_n (q := 1) rfl (by decide +kernel))) <|
  zA_c (zOk_fl zn_iflt (zs_iflt (off := 12) (by decide +kernel) (by decide))) <|
  zA_c (zOk_fl zn_iload (zs_iload_n (q := 1) rfl (by decide +kernel))) <|
  zA_c (zOk_fl zn_aload (zs_aload_n (q := 0) rfl (by decide +kernel))) <|
  zA_c (zOk_fl zn_getR (zs_getR (k := 0) rfl (by decide) (by decide +kernel) rfl (by decide +kernel) zw_303)) <|
  zA_c (zOk_fl zn_alen (zs_alen (by decide +kernel))) <|
  zA_c (zOk_fl zn_iclt (zs_iclt (off := 7) (by decide +kernel) (by decide))) <|
  zA_c (zOk_fl zn_push (zs_iconst (n := 1) (by decide +kernel) rfl)) <|
  zA_c (zOk_fl zn_goto (zs_goto (off := 4) (by decide +kernel) (by decide))) <|
  zA_c (zOk_fl zn_push (zs_iconst (n := 0) (by decide +kernel) rfl)) <|
  zA_c (zs_zret (by decide +kernel) rfl) <|
  zA_n
def zc_15 : Nat → zmI := zgetC [zcl_15_0]
theorem zmf_15 (l : Launch) : zMf l zc_15 15 := ⟨by decide +kernel, false, (fun h => by cases h), fun pc => zgetC_ok (zA2_c (zmc_15_0 l) (zA2_n)) pc⟩
def zcl_16_0 : List (Nat × zmI) := [(0, zm_aload 1 0), (1, zm_getI 4 1 1), (4, zm_aload 5 0), (5, zm_getR 8 1 0), (8, zm_alen 9), (9, zm_iclt 12 14), (12, zm_push 13 0), (13, zm_zret), (14, zm_aload 15 0), (15, zm_getR 18 1 0), (18, zm_aload 19 0), (19, zm_getI 22 1 1), (22, zm_iload 23 1), (23, zm_iast 24), (24, zm_aload 25 0), (25, zm_dup 26), (26, zm_getI 29 1 1), (29, zm_push 30 1), (30, zm_bin 31 (fun x y => w32 (x + y))), (31, zm_putI 34 1 1)]
theorem zmc_16_0 (l : Launch) : zAll l "ChessWire$Text" prog_12_method_4_code 2 false (some .boolean) zcl_16_0 :=
  zA_c (zOk_fl zn_aload (zs_aload_n (q := 0) rfl (by decide +kernel))) <|
  zA_c (zOk_fl zn_getI (zs_getI (k := 1) rfl (by decide) (by decide +kernel) rfl (by decide +kernel) zw_43)) <|
  zA_c (zOk_fl zn_aload (zs_aload_n (q := 0) rfl (by decide +kernel))) <|
  zA_c (zOk_fl zn_getR (zs_getR (k := 0) rfl (by decide) (by decide +kernel) rfl (by decide +kernel) zw_42)) <|
  zA_c (zOk_fl zn_alen (zs_alen (by decide +kernel))) <|
  zA_c (zOk_fl zn_iclt (zs_iclt (off := 5) (by decide +kernel) (by decide))) <|
  zA_c (zOk_fl zn_push (zs_iconst (n := 0) (by decide +kernel) rfl)) <|
  zA_c (zs_zret (by decide +kernel) rfl) <|
  zA_c (zOk_fl zn_aload (zs_aload_n (q := 0) rfl (by decide +kernel))) <|
  zA_c (zOk_fl zn_getR (zs_getR (k := 0) rfl (by decide) (by decide +kernel) rfl (by decide +kernel) zw_42)) <|
  zA_c (zOk_fl zn_aload (zs_aload_n (q := 0) rfl (by decide +kernel))) <|
  zA_c (zOk_fl zn_getI (zs_getI (k := 1) rfl (by decide) (by decide +kernel) rfl (by decide +kernel) zw_43)) <|
  zA_c (zOk_fl zn_iload (zs_iload_n (q := 1) rfl (by decide +kernel))) <|
  zA_c (zOk_sn zn_iast (zs_iast (by decide +kernel))) <|
  zA_c (zOk_fl zn_aload (zs_aload_n (q := 0) rfl (by decide +kernel))) <|
  zA_c (zOk_fl zn_dup (zs_dup (by decide +kernel))) <|
  zA_c (zOk_fl zn_getI (zs_getI (k := 1) rfl (by decide) (by decide +kernel) rfl (by decide +kernel) zw_43)) <|
  zA_c (zOk_fl zn_push (zs_iconst (n := 1) (by decide +kernel) rfl)) <|
  zA_c (zOk_fl zn_bin (zs_iadd (by decide +kernel))) <|
  zA_c (zOk_sn zn_putI (zs_putI (k := 1) rfl (by decide) (by decide +kernel) rfl rfl (by decide +kernel) zw_43)) <|
  zA_n
def zcl_16_1 : List (Nat × zmI) := [(34, zm_push 35 1), (35, zm_zret)]
theorem zmc_16_1 (l : Launch) : zAll l "ChessWire$Text" prog_12_method_4_code 2 false (some .boolean) zcl_16_1 :=
  zA_c (zOk_fl zn_push (zs_iconst (n := 1) (by decide +kernel) rfl)) <|
  zA_c (zs_zret (by decide +kernel) rfl) <|
  zA_n
def zc_16 : Nat → zmI := zgetC [zcl_16_0, zcl_16_1]
theorem zmf_16 (l : Launch) : zMf l zc_16 16 := ⟨by decide +kernel, false, (fun h => by cases h), fun pc => zgetC_ok (zA2_c (zmc_16_0 l) (zA2_c (zmc_16_1 l) (zA2_n))) pc⟩
def zcl_17_0 : List (Nat × zmI) := [(0, zm_iload 1 1), (1, zm_ifne 4 8), (4, zm_aload 5 0), (5, zm_call 8 18 1 false 0), (8, zm_vret)]
theorem zmc_17_0 (l : Launch) : zAll l "ChessWire" prog_1_method_42_code 2 false (none) zcl_17_0 :=
  zA_c (zOk_fl zn_iload (zs_iload_n (q := 1) rfl (by decide +kernel))) <|
  zA_c (zOk_fl zn_ifne (zs_ifne (off := 7) (by decide +kernel) (by decide))) <|
  zA_c (zOk_fl zn_aload (zs_aload_n (q := 0) rfl (by decide +kernel))) <|
  zA_c (zk_V zq_18 zw_371 rfl (by decide +kernel)) <|
  zA_c (zs_vret (by decide +kernel) rfl) <|
  zA_n
def zc_17 : Nat → zmI := zgetC [zcl_17_0]
theorem zmf_17 (l : Launch) : zMf l zc_17 17 := ⟨by decide +kernel, false, (fun h => by cases h), fun pc => zgetC_ok (zA2_c (zmc_17_0 l) (zA2_n)) pc⟩
def zcl_18_0 : List (Nat × zmI) := [(0, zm_aload 1 0), (1, zm_aload 2 0), (2, zm_getR 5 0 2), (5, zm_aload 6 0), (6, zm_getR 9 0 0), (9, zm_push 10 0), (10, zm_aald 11 103), (11, zm_aload 12 0), (12, zm_getR 15 0 1), (15, zm_call 18 19 3 true 3), (18, zm_putI 21 0 13), (21, zm_aload 22 0), (22, zm_push 23 0), (23, zm_putI 26 0 14), (26, zm_aload 27 0), (27, zm_push 28 0), (28, zm_putZ 31 0 16), (31, zm_vret)]
theorem zmc_18_0 (l : Launch) : zAll l "ChessWire" prog_1_method_43_code 1 false (none) zcl_18_0 :=
  zA_c (zOk_fl zn_aload (zs_aload_n (q := 0) rfl (by decide +kernel))) <|
  zA_c (zOk_fl zn_aload (zs_aload_n (q := 0) rfl (by decide +kernel))) <|
  zA_c (zOk_fl zn_getR (zs_getR (k := 2) rfl (by decide) (by decide +kernel) rfl (by decide +kernel) zw_305)) <|
  zA_c (zOk_fl zn_aload (zs_aload_n (q := 0) rfl (by decide +kernel))) <|
  zA_c (zOk_fl zn_getR (zs_getR (k := 0) rfl (by decide) (by decide +kernel) rfl (by decide +kernel) zw_303)) <|
  zA_c (zOk_fl zn_push (zs_iconst (n := 0) (by decide +kernel) rfl)) <|
  zA_c (zOk_fl zn_aald (zs_aald (t := 3) (by decide) (by decide) rfl rfl (by decide +kernel))) <|
  zA_c (zOk_fl zn_aload (zs_aload_n (q := 0) rfl (by decide +kernel))) <|
  zA_c (zOk_fl zn_getR (zs_getR (k := 1) rfl (by decide) (by decide +kernel) rfl (by decide +kernel) zw_304)) <|
  zA_c (zk_V zq_19 zw_375 rfl (by decide +kernel)) <|
  zA_c (zOk_sn zn_putI (zs_putI (k := 13) rfl (by decide) (by decide +kernel) rfl rfl (by decide +kernel) zw_316)) <|
  zA_c (zOk_fl zn_aload (zs_aload_n (q := 0) rfl (by decide +kernel))) <|
  zA_c (zOk_fl zn_push (zs_iconst (n := 0) (by decide +kernel) rfl)) <|
  zA_c (zOk_sn zn_putI (zs_putI (k := 14) rfl (by decide) (by decide +kernel) rfl rfl (by decide +kernel) zw_317)) <|
  zA_c (zOk_fl zn_aload (zs_aload_n (q := 0) rfl (by decide +kernel))) <|
  zA_c (zOk_fl zn_push (zs_iconst (n := 0) (by decide +kernel) rfl)) <|
  zA_c (zOk_sn zn_putZ (zs_putZ (k := 16) rfl (by decide) (by decide +kernel) rfl rfl (by decide +kernel) zw_319)) <|
  zA_c (zs_vret (by decide +kernel) rfl) <|
  zA_n
def zc_18 : Nat → zmI := zgetC [zcl_18_0]
theorem zmf_18 (l : Launch) : zMf l zc_18 18 := ⟨by decide +kernel, false, (fun h => by cases h), fun pc => zgetC_ok (zA2_c (zmc_18_0 l) (zA2_n)) pc⟩
def zcl_19_0 : List (Nat × zmI) := [(0, zm_aload 1 2), (1, zm_call 4 20 1 false 2), (4, zm_aload 5 0), (5, zm_push 7 7), (7, zm_putI 10 3 0), (10, zm_aload 11 0), (11, zm_push 12 0), (12, zm_putI 15 3 1), (15, zm_aload 16 0), (16, zm_push 17 0), (17, zm_putI 20 3 2), (20, zm_push 21 0), (21, zm_istore 22 3), (22, zm_iload 23 3), (23, zm_aload 24 1), (24, zm_call 27 22 1 true 1), (27, zm_icge 30 49), (30, zm_aload 31 0), (31, zm_aload 32 1)]
theorem zmc_19_0 (l : Launch) : zAll l "ChessWire$BoardReader" prog_3_method_2_code 4 false (some .int) zcl_19_0 :=
  zA_c (zOk_fl zn_aload (zs_aload_n (q := 2) rfl (by decide +kernel))) <|
  zA_c (zk_V zq_20 zw_379 rfl (by decide +kernel)) <|
  zA_c (zOk_fl zn_aload (zs_aload_n (q := 0) rfl (by decide +kernel))) <|
  zA_c (zOk_fl zn_push (zs_bipush (n := 7) (by decide +kernel) rfl)) <|
  zA_c (zOk_sn zn_putI (zs_putI (k := 0) rfl (by decide) (by decide +kernel) rfl rfl (by decide +kernel) zw_75)) <|
  zA_c (zOk_fl zn_aload (zs_aload_n (q := 0) rfl (by decide +kernel))) <|
  zA_c (zOk_fl zn_push (zs_iconst (n := 0) (by decide +kernel) rfl)) <|
  zA_c (zOk_sn zn_putI (zs_putI (k := 1) rfl (by decide) (by decide +kernel) rfl rfl (by decide +kernel) zw_76)) <|
  zA_c (zOk_fl zn_aload (zs_aload_n (q := 0) rfl (by decide +kernel))) <|
  zA_c (zOk_fl zn_push (zs_iconst (n := 0) (by decide +kernel) rfl)) <|
  zA_c (zOk_sn zn_putI (zs_putI (k := 2) rfl (by decide) (by decide +kernel) rfl rfl (by decide +kernel) zw_77)) <|
  zA_c (zOk_fl zn_push (zs_iconst (n := 0) (by decide +kernel) rfl)) <|
  zA_c (zOk_fl zn_istore (zs_istore_n (q := 3) rfl (by decide +kernel))) <|
  zA_c (zOk_fl zn_iload (zs_iload_n (q := 3) rfl (by decide +kernel))) <|
  zA_c (zOk_fl zn_aload (zs_aload_n (q := 1) rfl (by decide +kernel))) <|
  zA_c (zk_V zq_22 zw_386 rfl (by decide +kernel)) <|
  zA_c (zOk_fl zn_icge (zs_icge (off := 22) (by decide +kernel) (by decide))) <|
  zA_c (zOk_fl zn_aload (zs_aload_n (q := 0) rfl (by decide +kernel))) <|
  zA_c (zOk_fl zn_aload (zs_aload_n (q := 1) rfl (by decide +kernel))) <|
  zA_n
def zcl_19_1 : List (Nat × zmI) := [(32, zm_iload 33 3), (33, zm_call 36 23 2 true 1), (36, zm_aload 37 2), (37, zm_call 40 24 3 true 3), (40, zm_ifeq 43 49), (43, zm_iinc 46 3 1), (46, zm_goto 22), (49, zm_iload 50 3), (50, zm_aload 51 1), (51, zm_call 54 22 1 true 1), (54, zm_icne 57 67), (57, zm_aload 58 0), (58, zm_aload 59 2), (59, zm_call 62 52 2 true 3), (62, zm_ifeq 65 67)]
theorem zmc_19_1 (l : Launch) : zAll l "ChessWire$BoardReader" prog_3_method_2_code 4 false (some .int) zcl_19_1 :=
  zA_c (zOk_fl zn_iload (zs_iload_n (q := 3) rfl (by decide +kernel))) <|
  zA_c (zk_V zq_23 zw_390 rfl (by decide +kernel)) <|
  zA_c (zOk_fl zn_aload (zs_aload_n (q := 2) rfl (by decide +kernel))) <|
  zA_c (zk_V zq_24 zw_394 rfl (by decide +kernel)) <|
  zA_c (zOk_fl zn_ifeq (zs_ifeq (off := 9) (by decide +kernel) (by decide))) <|
  zA_c (zOk_fl zn_iinc (zs_iinc rfl (by decide +kernel))) <|
  zA_c (zOk_fl zn_goto (zs_goto (off := (-24)) (by decide +kernel) (by decide))) <|
  zA_c (zOk_fl zn_iload (zs_iload_n (q := 3) rfl (by decide +kernel))) <|
  zA_c (zOk_fl zn_aload (zs_aload_n (q := 1) rfl (by decide +kernel))) <|
  zA_c (zk_V zq_22 zw_386 rfl (by decide +kernel)) <|
  zA_c (zOk_fl zn_icne (zs_icne (off := 13) (by decide +kernel) (by decide))) <|
  zA_c (zOk_fl zn_aload (zs_aload_n (q := 0) rfl (by decide +kernel))) <|
  zA_c (zOk_fl zn_aload (zs_aload_n (q := 2) rfl (by decide +kernel))) <|
  zA_c (zk_V zq_52 zw_507 rfl (by decide +kernel)) <|
  zA_c (zOk_fl zn_ifeq (zs_ifeq (off := 5) (by decide +kernel) (by decide))) <|
  zA_n
def zcl_19_2 : List (Nat × zmI) := [(65, zm_push 66 (-1)), (66, zm_iret), (67, zm_aload 68 2), (68, zm_call 71 20 1 false 2), (71, zm_aload 72 2), (72, zm_push 73 0), (73, zm_push 75 6), (75, zm_call 78 51 3 false 2), (78, zm_aload 79 2), (79, zm_push 81 63), (81, zm_push 83 (-6)), (83, zm_call 86 51 3 false 2), (86, zm_iload 87 3), (87, zm_iret)]
theorem zmc_19_2 (l : Launch) : zAll l "ChessWire$BoardReader" prog_3_method_2_code 4 false (some .int) zcl_19_2 :=
  zA_c (zOk_fl zn_push (zs_iconst (n := (-1)) (by decide +kernel) rfl)) <|
  zA_c (zs_iret (by decide +kernel) rfl) <|
  zA_c (zOk_fl zn_aload (zs_aload_n (q := 2) rfl (by decide +kernel))) <|
  zA_c (zk_V zq_20 zw_379 rfl (by decide +kernel)) <|
  zA_c (zOk_fl zn_aload (zs_aload_n (q := 2) rfl (by decide +kernel))) <|
  zA_c (zOk_fl zn_push (zs_iconst (n := 0) (by decide +kernel) rfl)) <|
  zA_c (zOk_fl zn_push (zs_bipush (n := 6) (by decide +kernel) rfl)) <|
  zA_c (zk_V zq_51 zw_503 rfl (by decide +kernel)) <|
  zA_c (zOk_fl zn_aload (zs_aload_n (q := 2) rfl (by decide +kernel))) <|
  zA_c (zOk_fl zn_push (zs_bipush (n := 63) (by decide +kernel) rfl)) <|
  zA_c (zOk_fl zn_push (zs_bipush (n := (-6)) (by decide +kernel) rfl)) <|
  zA_c (zk_V zq_51 zw_503 rfl (by decide +kernel)) <|
  zA_c (zOk_fl zn_iload (zs_iload_n (q := 3) rfl (by decide +kernel))) <|
  zA_c (zs_iret (by decide +kernel) rfl) <|
  zA_n
def zc_19 : Nat → zmI := zgetC [zcl_19_0, zcl_19_1, zcl_19_2]
theorem zmf_19 (l : Launch) : zMf l zc_19 19 := ⟨by decide +kernel, false, (fun h => by cases h), fun pc => zgetC_ok (zA2_c (zmc_19_0 l) (zA2_c (zmc_19_1 l) (zA2_c (zmc_19_2 l) (zA2_n)))) pc⟩
def zcl_20_0 : List (Nat × zmI) := [(0, zm_aload 1 0), (1, zm_getR 4 2 0), (4, zm_push 5 0), (5, zm_call 8 21 2 false 99), (8, zm_aload 9 0), (9, zm_push 10 (-1)), (10, zm_putI 13 2 2), (13, zm_aload 14 0), (14, zm_push 15 (-1)), (15, zm_putI 18 2 3), (18, zm_aload 19 0), (19, zm_push 20 0), (20, zm_putI 23 2 1), (23, zm_vret)]
theorem zmc_20_0 (l : Launch) : zAll l "ChessWire$Board" prog_2_method_4_code 1 false (none) zcl_20_0 :=
  zA_c (zOk_fl zn_aload (zs_aload_n (q := 0) rfl (by decide +kernel))) <|
  zA_c (zOk_fl zn_getR (zs_getR (k := 0) rfl (by decide) (by decide +kernel) rfl (by decide +kernel) zw_56)) <|
  zA_c (zOk_fl zn_push (zs_iconst (n := 0) (by decide +kernel) rfl)) <|
  zA_c (zk_S zq_21 zw_383 (by decide +kernel)) <|
  zA_c (zOk_fl zn_aload (zs_aload_n (q := 0) rfl (by decide +kernel))) <|
  zA_c (zOk_fl zn_push (zs_iconst (n := (-1)) (by decide +kernel) rfl)) <|
  zA_c (zOk_sn zn_putI (zs_putI (k := 2) rfl (by decide) (by decide +kernel) rfl rfl (by decide +kernel) zw_58)) <|
  zA_c (zOk_fl zn_aload (zs_aload_n (q := 0) rfl (by decide +kernel))) <|
  zA_c (zOk_fl zn_push (zs_iconst (n := (-1)) (by decide +kernel) rfl)) <|
  zA_c (zOk_sn zn_putI (zs_putI (k := 3) rfl (by decide) (by decide +kernel) rfl rfl (by decide +kernel) zw_59)) <|
  zA_c (zOk_fl zn_aload (zs_aload_n (q := 0) rfl (by decide +kernel))) <|
  zA_c (zOk_fl zn_push (zs_iconst (n := 0) (by decide +kernel) rfl)) <|
  zA_c (zOk_sn zn_putI (zs_putI (k := 1) rfl (by decide) (by decide +kernel) rfl rfl (by decide +kernel) zw_57)) <|
  zA_c (zs_vret (by decide +kernel) rfl) <|
  zA_n
def zc_20 : Nat → zmI := zgetC [zcl_20_0]
theorem zmf_20 (l : Launch) : zMf l zc_20 20 := ⟨by decide +kernel, false, (fun h => by cases h), fun pc => zgetC_ok (zA2_c (zmc_20_0 l) (zA2_n)) pc⟩
def zcl_21_0 : List (Nat × zmI) := [(0, zm_push 1 0), (1, zm_istore 2 2), (2, zm_aload 3 0), (3, zm_alen 4), (4, zm_istore 5 3), (5, zm_iload 6 2), (6, zm_iload 7 3), (7, zm_icge 10 20), (10, zm_aload 11 0), (11, zm_iload 12 2), (12, zm_iload 13 1), (13, zm_iast 14), (14, zm_iinc 17 2 1), (17, zm_goto 5), (20, zm_vret)]
theorem zmc_21_0 (l : Launch) : zAll l "java/util/Arrays" prog_23_method_103_code 4 false (none) zcl_21_0 :=
  zA_c (zOk_fl zn_push (zs_iconst (n := 0) (by decide +kernel) rfl)) <|
  zA_c (zOk_fl zn_istore (zs_istore_n (q := 2) rfl (by decide +kernel))) <|
  zA_c (zOk_fl zn_aload (zs_aload_n (q := 0) rfl (by decide +kernel))) <|
  zA_c (zOk_fl zn_alen (zs_alen (by decide +kernel))) <|
  zA_c (zOk_fl zn_istore (zs_istore_n (q := 3) rfl (by decide +kernel))) <|
  zA_c (zOk_fl zn_iload (zs_iload_n (q := 2) rfl (by decide +kernel))) <|
  zA_c (zOk_fl zn_iload (zs_iload_n (q := 3) rfl (by decide +kernel))) <|
  zA_c (zOk_fl zn_icge (zs_icge (off := 13) (by decide +kernel) (by decide))) <|
  zA_c (zOk_fl zn_aload (zs_aload_n (q := 0) rfl (by decide +kernel))) <|
  zA_c (zOk_fl zn_iload (zs_iload_n (q := 2) rfl (by decide +kernel))) <|
  zA_c (zOk_fl zn_iload (zs_iload_n (q := 1) rfl (by decide +kernel))) <|
  zA_c (zOk_sn zn_iast (zs_iast (by decide +kernel))) <|
  zA_c (zOk_fl zn_iinc (zs_iinc rfl (by decide +kernel))) <|
  zA_c (zOk_fl zn_goto (zs_goto (off := (-12)) (by decide +kernel) (by decide))) <|
  zA_c (zs_vret (by decide +kernel) rfl) <|
  zA_n
def zc_21 : Nat → zmI := zgetC [zcl_21_0]
theorem zmf_21 (l : Launch) : zMf l zc_21 21 := ⟨by decide +kernel, false, (fun h => by cases h), fun pc => zgetC_ok (zA2_c (zmc_21_0 l) (zA2_n)) pc⟩
def zcl_22_0 : List (Nat × zmI) := [(0, zm_aload 1 0), (1, zm_getI 4 1 1), (4, zm_iret)]
theorem zmc_22_0 (l : Launch) : zAll l "ChessWire$Text" prog_12_method_2_code 1 false (some .int) zcl_22_0 :=
  zA_c (zOk_fl zn_aload (zs_aload_n (q := 0) rfl (by decide +kernel))) <|
  zA_c (zOk_fl zn_getI (zs_getI (k := 1) rfl (by decide) (by decide +kernel) rfl (by decide +kernel) zw_43)) <|
  zA_c (zs_iret (by decide +kernel) rfl) <|
  zA_n
def zc_22 : Nat → zmI := zgetC [zcl_22_0]
theorem zmf_22 (l : Launch) : zMf l zc_22 22 := ⟨by decide +kernel, false, (fun h => by cases h), fun pc => zgetC_ok (zA2_c (zmc_22_0 l) (zA2_n)) pc⟩
def zcl_23_0 : List (Nat × zmI) := [(0, zm_iload 1 1), (1, zm_iflt 4 21), (4, zm_iload 5 1), (5, zm_aload 6 0), (6, zm_getI 9 1 1), (9, zm_icge 12 21), (12, zm_aload 13 0), (13, zm_getR 16 1 0), (16, zm_iload 17 1), (17, zm_ald 18 100), (18, zm_goto 22), (21, zm_push 22 (-1)), (22, zm_iret)]
theorem zmc_23_0 (l : Launch) : zAll l "ChessWire$Text" prog_12_method_3_code 2 false (some .int) zcl_23_0 :=
  zA_c (zOk_fl zn_iload (zs_iload_n (q := 1) rfl (by decide +kernel))) <|
  zA_c (zOk_fl zn_iflt (zs_iflt (off := 20) (by decide +kernel) (by decide))) <|
  zA_c (zOk_fl zn_iload (zs_iload_n (q := 1) rfl (by decide +kernel))) <|
  zA_c (zOk_fl zn_aload (zs_aload_n (q := 0) rfl (by decide +kernel))) <|
  zA_c (zOk_fl zn_getI (zs_getI (k := 1) rfl (by decide) (by decide +kernel) rfl (by decide +kernel) zw_43)) <|
  zA_c (zOk_fl zn_icge (zs_icge (off := 12) (by decide +kernel) (by decide))) <|
  zA_c (zOk_fl zn_aload (zs_aload_n (q := 0) rfl (by decide +kernel))) <|
  zA_c (zOk_fl zn_getR (zs_getR (k := 0) rfl (by decide) (by decide +kernel) rfl (by decide +kernel) zw_42)) <|
  zA_c (zOk_fl zn_iload (zs_iload_n (q := 1) rfl (by decide +kernel))) <|
  zA_c (zOk_fl zn_ald (zs_iald (by decide +kernel))) <|
  zA_c (zOk_fl zn_goto (zs_goto (off := 4) (by decide +kernel) (by decide))) <|
  zA_c (zOk_fl zn_push (zs_iconst (n := (-1)) (by decide +kernel) rfl)) <|
  zA_c (zs_iret (by decide +kernel) rfl) <|
  zA_n
def zc_23 : Nat → zmI := zgetC [zcl_23_0]
theorem zmf_23 (l : Launch) : zMf l zc_23 23 := ⟨by decide +kernel, false, (fun h => by cases h), fun pc => zgetC_ok (zA2_c (zmc_23_0 l) (zA2_n)) pc⟩
def zcl_24_0 : List (Nat × zmI) := [(0, zm_aload 1 0), (1, zm_getI 4 3 2), (4, zm_push 5 1), (5, zm_icne 8 46), (8, zm_aload 9 2), (9, zm_iload 10 1), (10, zm_push 12 98), (12, zm_icne 15 19), (15, zm_push 16 1), (16, zm_goto 20), (19, zm_push 20 0), (20, zm_call 23 25 2 false 2), (23, zm_aload 24 0), (24, zm_push 25 2), (25, zm_putI 28 3 2), (28, zm_iload 29 1), (29, zm_push 31 119), (31, zm_iceq 34 40)]
theorem zmc_24_0 (l : Launch) : zAll l "ChessWire$BoardReader" prog_3_method_4_code 3 false (some .boolean) zcl_24_0 :=
  zA_c (zOk_fl zn_aload (zs_aload_n (q := 0) rfl (by decide +kernel))) <|
  zA_c (zOk_fl zn_getI (zs_getI (k := 2) rfl (by decide) (by decide +kernel) rfl (by decide +kernel) zw_77)) <|
  zA_c (zOk_fl zn_push (zs_iconst (n := 1) (by decide +kernel) rfl)) <|
  zA_c (zOk_fl zn_icne (zs_icne (off := 41) (by decide +kernel) (by decide))) <|
  zA_c (zOk_fl zn_aload (zs_aload_n (q := 2) rfl (by decide +kernel))) <|
  zA_c (zOk_fl zn_iload (zs_iload_n (q := 1) rfl (by decide +kernel))) <|
  zA_c (zOk_fl zn_push (zs_bipush (n := 98) (by decide +kernel) rfl)) <|
  zA_c (zOk_fl zn_icne (zs_icne (off := 7) (by decide +kernel) (by decide))) <|
  zA_c (zOk_fl zn_push (zs_iconst (n := 1) (by decide +kernel) rfl)) <|
  zA_c (zOk_fl zn_goto (zs_goto (off := 4) (by decide +kernel) (by decide))) <|
  zA_c (zOk_fl zn_push (zs_iconst (n := 0) (by decide +kernel) rfl)) <|
  zA_c (zk_V zq_25 zw_398 rfl (by decide +kernel)) <|
  zA_c (zOk_fl zn_aload (zs_aload_n (q := 0) rfl (by decide +kernel))) <|
  zA_c (zOk_fl zn_push (zs_iconst (n := 2) (by decide +kernel) rfl)) <|
  zA_c (zOk_sn zn_putI (zs_putI (k := 2) rfl (by decide) (by decide +kernel) rfl rfl (by decide +kernel) zw_77)) <|
  zA_c (zOk_fl zn_iload (zs_iload_n (q := 1) rfl (by decide +kernel))) <|
  zA_c (zOk_fl zn_push (zs_bipush (n := 119) (by decide +kernel) rfl)) <|
  zA_c (zOk_fl zn_iceq (zs_iceq (off := 9) (by decide +kernel) (by decide))) <|
  zA_n
def zcl_24_1 : List (Nat × zmI) := [(34, zm_iload 35 1), (35, zm_push 37 98), (37, zm_icne 40 44), (40, zm_push 41 1), (41, zm_goto 45), (44, zm_push 45 0), (45, zm_zret), (46, zm_aload 47 0), (47, zm_getI 50 3 2), (50, zm_push 51 2), (51, zm_icne 54 56), (54, zm_push 55 0), (55, zm_zret), (56, zm_iload 57 1), (57, zm_push 59 49), (59, zm_iclt 62 96), (62, zm_iload 63 1), (63, zm_push 65 56)]
theorem zmc_24_1 (l : Launch) : zAll l "ChessWire$BoardReader" prog_3_method_4_code 3 false (some .boolean) zcl_24_1 :=
  zA_c (zOk_fl zn_iload (zs_iload_n (q := 1) rfl (by decide +kernel))) <|
  zA_c (zOk_fl zn_push (zs_bipush (n := 98) (by decide +kernel) rfl)) <|
  zA_c (zOk_fl zn_icne (zs_icne (off := 7) (by decide +kernel) (by decide))) <|
  zA_c (zOk_fl zn_push (zs_iconst (n := 1) (by decide +kernel) rfl)) <|
  zA_c (zOk_fl zn_goto (zs_goto (off := 4) (by decide +kernel) (by decide))) <|
  zA_c (zOk_fl zn_push (zs_iconst (n := 0) (by decide +kernel) rfl)) <|
  zA_c (zs_zret (by decide +kernel) rfl) <|
  zA_c (zOk_fl zn_aload (zs_aload_n (q := 0) rfl (by decide +kernel))) <|
  zA_c (zOk_fl zn_getI (zs_getI (k := 2) rfl (by decide) (by decide +kernel) rfl (by decide +kernel) zw_77)) <|
  zA_c (zOk_fl zn_push (zs_iconst (n := 2) (by decide +kernel) rfl)) <|
  zA_c (zOk_fl zn_icne (zs_icne (off := 5) (by decide +kernel) (by decide))) <|
  zA_c (zOk_fl zn_push (zs_iconst (n := 0) (by decide +kernel) rfl)) <|
  zA_c (zs_zret (by decide +kernel) rfl) <|
  zA_c (zOk_fl zn_iload (zs_iload_n (q := 1) rfl (by decide +kernel))) <|
  zA_c (zOk_fl zn_push (zs_bipush (n := 49) (by decide +kernel) rfl)) <|
  zA_c (zOk_fl zn_iclt (zs_iclt (off := 37) (by decide +kernel) (by decide))) <|
  zA_c (zOk_fl zn_iload (zs_iload_n (q := 1) rfl (by decide +kernel))) <|
  zA_c (zOk_fl zn_push (zs_bipush (n := 56) (by decide +kernel) rfl)) <|
  zA_n
def zcl_24_2 : List (Nat × zmI) := [(65, zm_icgt 68 96), (68, zm_aload 69 0), (69, zm_dup 70), (70, zm_getI 73 3 1), (73, zm_iload 74 1), (74, zm_push 76 48), (76, zm_bin 77 (fun x y => w32 (x - y))), (77, zm_bin 78 (fun x y => w32 (x + y))), (78, zm_putI 81 3 1), (81, zm_aload 82 0), (82, zm_getI 85 3 1), (85, zm_push 87 8), (87, zm_icgt 90 94), (90, zm_push 91 1), (91, zm_goto 95), (94, zm_push 95 0), (95, zm_zret)]
theorem zmc_24_2 (l : Launch) : zAll l "ChessWire$BoardReader" prog_3_method_4_code 3 false (some .boolean) zcl_24_2 :=
  zA_c (zOk_fl zn_icgt (zs_icgt (off := 31) (by decide +kernel) (by decide))) <|
  zA_c (zOk_fl zn_aload (zs_aload_n (q := 0) rfl (by decide +kernel))) <|
  zA_c (zOk_fl zn_dup (zs_dup (by decide +kernel))) <|
  zA_c (zOk_fl zn_getI (zs_getI (k := 1) rfl (by decide) (by decide +kernel) rfl (by decide +kernel) zw_76)) <|
  zA_c (zOk_fl zn_iload (zs_iload_n (q := 1) rfl (by decide +kernel))) <|
  zA_c (zOk_fl zn_push (zs_bipush (n := 48) (by decide +kernel) rfl)) <|
  zA_c (zOk_fl zn_bin (zs_isub (by decide +kernel))) <|
  zA_c (zOk_fl zn_bin (zs_iadd (by decide +kernel))) <|
  zA_c (zOk_sn zn_putI (zs_putI (k := 1) rfl (by decide) (by decide +kernel) rfl rfl (by decide +kernel) zw_76)) <|
  zA_c (zOk_fl zn_aload (zs_aload_n (q := 0) rfl (by decide +kernel))) <|
  zA_c (zOk_fl zn_getI (zs_getI (k := 1) rfl (by decide) (by decide +kernel) rfl (by decide +kernel) zw_76)) <|
  zA_c (zOk_fl zn_push (zs_bipush (n := 8) (by decide +kernel) rfl)) <|
  zA_c (zOk_fl zn_icgt (zs_icgt (off := 7) (by decide +kernel) (by decide))) <|
  zA_c (zOk_fl zn_push (zs_iconst (n := 1) (by decide +kernel) rfl)) <|
  zA_c (zOk_fl zn_goto (zs_goto (off := 4) (by decide +kernel) (by decide))) <|
  zA_c (zOk_fl zn_push (zs_iconst (n := 0) (by decide +kernel) rfl)) <|
  zA_c (zs_zret (by decide +kernel) rfl) <|
  zA_n
def zcl_24_3 : List (Nat × zmI) := [(96, zm_iload 97 1), (97, zm_push 99 47), (99, zm_iceq 102 108), (102, zm_iload 103 1), (103, zm_push 105 32), (105, zm_icne 108 114), (108, zm_aload 109 0), (109, zm_iload 110 1), (110, zm_call 113 26 2 true 3), (113, zm_zret), (114, zm_aload 115 0), (115, zm_iload 116 1), (116, zm_call 119 27 1 true 99), (119, zm_aload 120 2), (120, zm_call 123 49 3 true 3), (123, zm_zret)]
theorem zmc_24_3 (l : Launch) : zAll l "ChessWire$BoardReader" prog_3_method_4_code 3 false (some .boolean) zcl_24_3 :=
  zA_c (zOk_fl zn_iload (zs_iload_n (q := 1) rfl (by decide +kernel))) <|
  zA_c (zOk_fl zn_push (zs_bipush (n := 47) (by decide +kernel) rfl)) <|
  zA_c (zOk_fl zn_iceq (zs_iceq (off := 9) (by decide +kernel) (by decide))) <|
  zA_c (zOk_fl zn_iload (zs_iload_n (q := 1) rfl (by decide +kernel))) <|
  zA_c (zOk_fl zn_push (zs_bipush (n := 32) (by decide +kernel) rfl)) <|
  zA_c (zOk_fl zn_icne (zs_icne (off := 9) (by decide +kernel) (by decide))) <|
  zA_c (zOk_fl zn_aload (zs_aload_n (q := 0) rfl (by decide +kernel))) <|
  zA_c (zOk_fl zn_iload (zs_iload_n (q := 1) rfl (by decide +kernel))) <|
  zA_c (zk_V zq_26 zw_402 rfl (by decide +kernel)) <|
  zA_c (zs_zret (by decide +kernel) rfl) <|
  zA_c (zOk_fl zn_aload (zs_aload_n (q := 0) rfl (by decide +kernel))) <|
  zA_c (zOk_fl zn_iload (zs_iload_n (q := 1) rfl (by decide +kernel))) <|
  zA_c (zk_S zq_27 zw_406 (by decide +kernel)) <|
  zA_c (zOk_fl zn_aload (zs_aload_n (q := 2) rfl (by decide +kernel))) <|
  zA_c (zk_V zq_49 zw_495 rfl (by decide +kernel)) <|
  zA_c (zs_zret (by decide +kernel) rfl) <|
  zA_n
def zc_24 : Nat → zmI := zgetC [zcl_24_0, zcl_24_1, zcl_24_2, zcl_24_3]
theorem zmf_24 (l : Launch) : zMf l zc_24 24 := ⟨by decide +kernel, false, (fun h => by cases h), fun pc => zgetC_ok (zA2_c (zmc_24_0 l) (zA2_c (zmc_24_1 l) (zA2_c (zmc_24_2 l) (zA2_c (zmc_24_3 l) (zA2_n))))) pc⟩
def zcl_25_0 : List (Nat × zmI) := [(0, zm_aload 1 0), (1, zm_iload 2 1), (2, zm_putI 5 2 1), (5, zm_vret)]
theorem zmc_25_0 (l : Launch) : zAll l "ChessWire$Board" prog_2_method_6_code 2 false (none) zcl_25_0 :=
  zA_c (zOk_fl zn_aload (zs_aload_n (q := 0) rfl (by decide +kernel))) <|
  zA_c (zOk_fl zn_iload (zs_iload_n (q := 1) rfl (by decide +kernel))) <|
  zA_c (zOk_sn zn_putI (zs_putI (k := 1) rfl (by decide) (by decide +kernel) rfl rfl (by decide +kernel) zw_57)) <|
  zA_c (zs_vret (by decide +kernel) rfl) <|
  zA_n
def zc_25 : Nat → zmI := zgetC [zcl_25_0]
theorem zmf_25 (l : Launch) : zMf l zc_25 25 := ⟨by decide +kernel, false, (fun h => by cases h), fun pc => zgetC_ok (zA2_c (zmc_25_0 l) (zA2_n)) pc⟩
def zcl_26_0 : List (Nat × zmI) := [(0, zm_aload 1 0), (1, zm_getI 4 3 1), (4, zm_push 6 8), (6, zm_icne 9 35), (9, zm_aload 10 0), (10, zm_getI 13 3 0), (13, zm_ifne 16 20), (16, zm_push 17 1), (17, zm_goto 21), (20, zm_push 21 0), (21, zm_iload 22 1), (22, zm_push 24 32), (24, zm_icne 27 31), (27, zm_push 28 1), (28, zm_goto 32), (31, zm_push 32 0)]
theorem zmc_26_0 (l : Launch) : zAll l "ChessWire$BoardReader" prog_3_method_5_code 2 false (some .boolean) zcl_26_0 :=
  zA_c (zOk_fl zn_aload (zs_aload_n (q := 0) rfl (by decide +kernel))) <|
  zA_c (zOk_fl zn_getI (zs_getI (k := 1) rfl (by decide) (by decide +kernel) rfl (by decide +kernel) zw_76)) <|
  zA_c (zOk_fl zn_push (zs_bipush (n := 8) (by decide +kernel) rfl)) <|
  zA_c (zOk_fl zn_icne (zs_icne (off := 29) (by decide +kernel) (by decide))) <|
  zA_c (zOk_fl zn_aload (zs_aload_n (q := 0) rfl (by decide +kernel))) <|
  zA_c (zOk_fl zn_getI (zs_getI (k := 0) rfl (by decide) (by decide +kernel) rfl (by decide +kernel) zw_75)) <|
  zA_c (zOk_fl zn_ifne (zs_ifne (off := 7) (by decide +kernel) (by decide))) <|
  zA_c (zOk_fl zn_push (zs_iconst (n := 1) (by decide +kernel) rfl)) <|
  zA_c (zOk_fl zn_goto (zs_goto (off := 4) (by decide +kernel) (by decide))) <|
  zA_c (zOk_fl zn_push (zs_iconst (n := 0) (by decide +kernel) rfl)) <|
  zA_c (zOk_fl zn_iload (zs_iload_n (q := 1) rfl (by decide +kernel))) <|
  zA_c (zOk_fl zn_push (zs_bipush (n := 32) (by decide +kernel) rfl)) <|
  zA_c (zOk_fl zn_icne (zs_icne (off := 7) (by decide +kernel) (by decide))) <|
  zA_c (zOk_fl zn_push (zs_iconst (n := 1) (by decide +kernel) rfl)) <|
  zA_c (zOk_fl zn_goto (zs_goto (off := 4) (by decide +kernel) (by decide))) <|
  zA_c (zOk_fl zn_push (zs_iconst (n := 0) (by decide +kernel) rfl)) <|
  zA_n
def zcl_26_1 : List (Nat × zmI) := [(32, zm_iceq 35 37), (35, zm_push 36 0), (36, zm_zret), (37, zm_aload 38 0), (38, zm_getI 41 3 0), (41, zm_ifne 44 52), (44, zm_aload 45 0), (45, zm_push 46 1), (46, zm_putI 49 3 2), (49, zm_goto 67), (52, zm_aload 53 0), (53, zm_dup 54), (54, zm_getI 57 3 0), (57, zm_push 58 1), (58, zm_bin 59 (fun x y => w32 (x - y))), (59, zm_putI 62 3 0), (62, zm_aload 63 0), (63, zm_push 64 0)]
theorem zmc_26_1 (l : Launch) : zAll l "ChessWire$BoardReader" prog_3_method_5_code 2 false (some .boolean) zcl_26_1 :=
  zA_c (zOk_fl zn_iceq (zs_iceq (off := 5) (by decide +kernel) (by decide))) <|
  zA_c (zOk_fl zn_push (zs_iconst (n := 0) (by decide +kernel) rfl)) <|
  zA_c (zs_zret (by decide +kernel) rfl) <|
  zA_c (zOk_fl zn_aload (zs_aload_n (q := 0) rfl (by decide +kernel))) <|
  zA_c (zOk_fl zn_getI (zs_getI (k := 0) rfl (by decide) (by decide +kernel) rfl (by decide +kernel) zw_75)) <|
  zA_c (zOk_fl zn_ifne (zs_ifne (off := 11) (by decide +kernel) (by decide))) <|
  zA_c (zOk_fl zn_aload (zs_aload_n (q := 0) rfl (by decide +kernel))) <|
  zA_c (zOk_fl zn_push (zs_iconst (n := 1) (by decide +kernel) rfl)) <|
  zA_c (zOk_sn zn_putI (zs_putI (k := 2) rfl (by decide) (by decide +kernel) rfl rfl (by decide +kernel) zw_77)) <|
  zA_c (zOk_fl zn_goto (zs_goto (off := 18) (by decide +kernel) (by decide))) <|
  zA_c (zOk_fl zn_aload (zs_aload_n (q := 0) rfl (by decide +kernel))) <|
  zA_c (zOk_fl zn_dup (zs_dup (by decide +kernel))) <|
  zA_c (zOk_fl zn_getI (zs_getI (k := 0) rfl (by decide) (by decide +kernel) rfl (by decide +kernel) zw_75)) <|
  zA_c (zOk_fl zn_push (zs_iconst (n := 1) (by decide +kernel) rfl)) <|
  zA_c (zOk_fl zn_bin (zs_isub (by decide +kernel))) <|
  zA_c (zOk_sn zn_putI (zs_putI (k := 0) rfl (by decide) (by decide +kernel) rfl rfl (by decide +kernel) zw_75)) <|
  zA_c (zOk_fl zn_aload (zs_aload_n (q := 0) rfl (by decide +kernel))) <|
  zA_c (zOk_fl zn_push (zs_iconst (n := 0) (by decide +kernel) rfl)) <|
  zA_n
def zcl_26_2 : List (Nat × zmI) := [(64, zm_putI 67 3 1), (67, zm_push 68 1), (68, zm_zret)]
theorem zmc_26_2 (l : Launch) : zAll l "ChessWire$BoardReader" prog_3_method_5_code 2 false (some .boolean) zcl_26_2 :=
  zA_c (zOk_sn zn_putI (zs_putI (k := 1) rfl (by decide) (by decide +kernel) rfl rfl (by decide +kernel) zw_76)) <|
  zA_c (zOk_fl zn_push (zs_iconst (n := 1) (by decide +kernel) rfl)) <|
  zA_c (zs_zret (by decide +kernel) rfl) <|
  zA_n
def zc_26 : Nat → zmI := zgetC [zcl_26_0, zcl_26_1, zcl_26_2]
theorem zmf_26 (l : Launch) : zMf l zc_26 26 := ⟨by decide +kernel, false, (fun h => by cases h), fun pc => zgetC_ok (zA2_c (zmc_26_0 l) (zA2_c (zmc_26_1 l) (zA2_c (zmc_26_2 l) (zA2_n)))) pc⟩
def zcl_27_0 : List (Nat × zmI) := [(0, zm_pushr 2 (zXB + 10)), (2, zm_iload 3 0), (3, zm_un 4 z_i2c), (4, zm_call 7 28 2 true 60), (7, zm_istore 8 1), (8, zm_iload 9 1), (9, zm_iflt 12 18), (12, zm_iload 13 1), (13, zm_push 14 1), (14, zm_bin 15 (fun x y => w32 (x + y))), (15, zm_goto 27), (18, zm_push 19 (-1)), (19, zm_pushr 21 (zXB + 11)), (21, zm_iload 22 0), (22, zm_un 23 z_i2c), (23, zm_call 26 28 2 true 60), (26, zm_bin 27 (fun x y => w32 (x - y))), (27, zm_iret)]
theorem zmc_27_0 (l : Launch) : zAll l "ChessWire$Board" prog_2_method_2_code 2 false (some .int) zcl_27_0 :=
  zA_c (zOk_fl zn_pushr (zs_text0 rfl (by decide +kernel))) <|
  zA_c (zOk_fl zn_iload (zs_iload_n (q := 0) rfl (by decide +kernel))) <|
  zA_c (zOk_fl zn_un (zs_i2c (by decide +kernel))) <|
  zA_c (zk_X zq_28 zw_410 rfl (by decide +kernel)) <|
  zA_c (zOk_fl zn_istore (zs_istore_n (q := 1) rfl (by decide +kernel))) <|
  zA_c (zOk_fl zn_iload (zs_iload_n (q := 1) rfl (by decide +kernel))) <|
  zA_c (zOk_fl zn_iflt (zs_iflt (off := 9) (by decide +kernel) (by decide))) <|
  zA_c (zOk_fl zn_iload (zs_iload_n (q := 1) rfl (by decide +kernel))) <|
  zA_c (zOk_fl zn_push (zs_iconst (n := 1) (by decide +kernel) rfl)) <|
  zA_c (zOk_fl zn_bin (zs_iadd (by decide +kernel))) <|
  zA_c (zOk_fl zn_goto (zs_goto (off := 12) (by decide +kernel) (by decide))) <|
  zA_c (zOk_fl zn_push (zs_iconst (n := (-1)) (by decide +kernel) rfl)) <|
  zA_c (zOk_fl zn_pushr (zs_text1 rfl (by decide +kernel))) <|
  zA_c (zOk_fl zn_iload (zs_iload_n (q := 0) rfl (by decide +kernel))) <|
  zA_c (zOk_fl zn_un (zs_i2c (by decide +kernel))) <|
  zA_c (zk_X zq_28 zw_410 rfl (by decide +kernel)) <|
  zA_c (zOk_fl zn_bin (zs_isub (by decide +kernel))) <|
  zA_c (zs_iret (by decide +kernel) rfl) <|
  zA_n
def zc_27 : Nat → zmI := zgetC [zcl_27_0]
theorem zmf_27 (l : Launch) : zMf l zc_27 27 := ⟨by decide +kernel, false, (fun h => by cases h), fun pc => zgetC_ok (zA2_c (zmc_27_0 l) (zA2_n)) pc⟩
def zcl_28_0 : List (Nat × zmI) := [(0, zm_aload 1 0), (1, zm_iload 2 1), (2, zm_push 3 0), (3, zm_call 6 29 3 true 60), (6, zm_iret)]
theorem zmc_28_0 (l : Launch) : zAll l "java/lang/String" prog_19_method_79_code 2 false (some .int) zcl_28_0 :=
  zA_c (zOk_fl zn_aload (zs_aload_n (q := 0) rfl (by decide +kernel))) <|
  zA_c (zOk_fl zn_iload (zs_iload_n (q := 1) rfl (by decide +kernel))) <|
  zA_c (zOk_fl zn_push (zs_iconst (n := 0) (by decide +kernel) rfl)) <|
  zA_c (zk_X zq_29 zw_414 rfl (by decide +kernel)) <|
  zA_c (zs_iret (by decide +kernel) rfl) <|
  zA_n
def zc_28 : Nat → zmI := zgetC [zcl_28_0]
theorem zmf_28 (l : Launch) : zMf l zc_28 28 := ⟨by decide +kernel, false, (fun h => by cases h), fun pc => zgetC_ok (zA2_c (zmc_28_0 l) (zA2_n)) pc⟩
def zcl_29_0 : List (Nat × zmI) := [(0, zm_aload 1 0), (1, zm_call 4 30 1 true 60), (4, zm_ifeq 7 23), (7, zm_aload 8 0), (8, zm_getR 11 60 0), (11, zm_iload 12 1), (12, zm_iload 13 2), (13, zm_aload 14 0), (14, zm_call 17 31 1 true 60), (17, zm_call 20 33 4 true 99), (20, zm_goto 36), (23, zm_aload 24 0), (24, zm_getR 27 60 0), (27, zm_iload 28 1), (28, zm_iload 29 2), (29, zm_aload 30 0), (30, zm_call 33 31 1 true 60)]
theorem zmc_29_0 (l : Launch) : zAll l "java/lang/String" prog_19_method_80_code 3 false (some .int) zcl_29_0 :=
  zA_c (zOk_fl zn_aload (zs_aload_n (q := 0) rfl (by decide +kernel))) <|
  zA_c (zk_X zq_30 zw_418 rfl (by decide +kernel)) <|
  zA_c (zOk_fl zn_ifeq (zs_ifeq (off := 19) (by decide +kernel) (by decide))) <|
  zA_c (zOk_fl zn_aload (zs_aload_n (q := 0) rfl (by decide +kernel))) <|
  zA_c (zOk_fl zn_getR (zs_bytes (by decide +kernel) zw_1703)) <|
  zA_c (zOk_fl zn_iload (zs_iload_n (q := 1) rfl (by decide +kernel))) <|
  zA_c (zOk_fl zn_iload (zs_iload_n (q := 2) rfl (by decide +kernel))) <|
  zA_c (zOk_fl zn_aload (zs_aload_n (q := 0) rfl (by decide +kernel))) <|
  zA_c (zk_X zq_31 zw_424 rfl (by decide +kernel)) <|
  zA_c (zk_S zq_33 zw_432 (by decide +kernel)) <|
  zA_c (zOk_fl zn_goto (zs_goto (off := 16) (by decide +kernel) (by decide))) <|
  zA_c (zOk_fl zn_aload (zs_aload_n (q := 0) rfl (by decide +kernel))) <|
  zA_c (zOk_fl zn_getR (zs_bytes (by decide +kernel) zw_1703)) <|
  zA_c (zOk_fl zn_iload (zs_iload_n (q := 1) rfl (by decide +kernel))) <|
  zA_c (zOk_fl zn_iload (zs_iload_n (q := 2) rfl (by decide +kernel))) <|
  zA_c (zOk_fl zn_aload (zs_aload_n (q := 0) rfl (by decide +kernel))) <|
  zA_c (zk_X zq_31 zw_424 rfl (by decide +kernel)) <|
  zA_n
def zcl_29_1 : List (Nat × zmI) := [(33, zm_no), (36, zm_iret)]
theorem zmc_29_1 (l : Launch) : zAll l "java/lang/String" prog_19_method_80_code 3 false (some .int) zcl_29_1 :=
  zA_c (zOk_no) <|
  zA_c (zs_iret (by decide +kernel) rfl) <|
  zA_n
def zc_29 : Nat → zmI := zgetC [zcl_29_0, zcl_29_1]
theorem zmf_29 (l : Launch) : zMf l zc_29 29 := ⟨by decide +kernel, false, (fun h => by cases h), fun pc => zgetC_ok (zA2_c (zmc_29_0 l) (zA2_c (zmc_29_1 l) (zA2_n))) pc⟩
def zcl_30_0 : List (Nat × zmI) := [(0, zm_push 3 1), (3, zm_ifeq 6 17), (6, zm_aload 7 0), (7, zm_getI 10 60 1), (10, zm_ifne 13 17), (13, zm_push 14 1), (14, zm_goto 18), (17, zm_push 18 0), (18, zm_zret)]
theorem zmc_30_0 (l : Launch) : zAll l "java/lang/String" prog_19_method_154_code 1 false (some .boolean) zcl_30_0 :=
  zA_c (zOk_fl zn_push (zs_compact (by decide +kernel) zw_422)) <|
  zA_c (zOk_fl zn_ifeq (zs_ifeq (off := 14) (by decide +kernel) (by decide))) <|
  zA_c (zOk_fl zn_aload (zs_aload_n (q := 0) rfl (by decide +kernel))) <|
  zA_c (zOk_fl zn_getI (zs_coder (by decide +kernel) zw_1702)) <|
  zA_c (zOk_fl zn_ifne (zs_ifne (off := 7) (by decide +kernel) (by decide))) <|
  zA_c (zOk_fl zn_push (zs_iconst (n := 1) (by decide +kernel) rfl)) <|
  zA_c (zOk_fl zn_goto (zs_goto (off := 4) (by decide +kernel) (by decide))) <|
  zA_c (zOk_fl zn_push (zs_iconst (n := 0) (by decide +kernel) rfl)) <|
  zA_c (zs_zret (by decide +kernel) rfl) <|
  zA_n
def zc_30 : Nat → zmI := zgetC [zcl_30_0]
theorem zmf_30 (l : Launch) : zMf l zc_30 30 := ⟨by decide +kernel, false, (fun h => by cases h), fun pc => zgetC_ok (zA2_c (zmc_30_0 l) (zA2_n)) pc⟩
def zcl_31_0 : List (Nat × zmI) := [(0, zm_aload 1 0), (1, zm_getR 4 60 0), (4, zm_alen 5), (5, zm_aload 6 0), (6, zm_call 9 32 1 true 60), (9, zm_bin 10 z_shr), (10, zm_iret)]
theorem zmc_31_0 (l : Launch) : zAll l "java/lang/String" prog_19_method_54_code 1 false (some .int) zcl_31_0 :=
  zA_c (zOk_fl zn_aload (zs_aload_n (q := 0) rfl (by decide +kernel))) <|
  zA_c (zOk_fl zn_getR (zs_bytes (by decide +kernel) zw_1703)) <|
  zA_c (zOk_fl zn_alen (zs_alen (by decide +kernel))) <|
  zA_c (zOk_fl zn_aload (zs_aload_n (q := 0) rfl (by decide +kernel))) <|
  zA_c (zk_X zq_32 zw_428 rfl (by decide +kernel)) <|
  zA_c (zOk_fl zn_bin (zs_ishr (by decide +kernel))) <|
  zA_c (zs_iret (by decide +kernel) rfl) <|
  zA_n
def zc_31 : Nat → zmI := zgetC [zcl_31_0]
theorem zmf_31 (l : Launch) : zMf l zc_31 31 := ⟨by decide +kernel, false, (fun h => by cases h), fun pc => zgetC_ok (zA2_c (zmc_31_0 l) (zA2_n)) pc⟩
def zcl_32_0 : List (Nat × zmI) := [(0, zm_push 3 1), (3, zm_ifeq 6 13), (6, zm_aload 7 0), (7, zm_getI 10 60 1), (10, zm_goto 14), (13, zm_push 14 1), (14, zm_bret)]
theorem zmc_32_0 (l : Launch) : zAll l "java/lang/String" prog_19_method_152_code 1 false (some .byte) zcl_32_0 :=
  zA_c (zOk_fl zn_push (zs_compact (by decide +kernel) zw_422)) <|
  zA_c (zOk_fl zn_ifeq (zs_ifeq (off := 10) (by decide +kernel) (by decide))) <|
  zA_c (zOk_fl zn_aload (zs_aload_n (q := 0) rfl (by decide +kernel))) <|
  zA_c (zOk_fl zn_getI (zs_coder (by decide +kernel) zw_1702)) <|
  zA_c (zOk_fl zn_goto (zs_goto (off := 4) (by decide +kernel) (by decide))) <|
  zA_c (zOk_fl zn_push (zs_iconst (n := 1) (by decide +kernel) rfl)) <|
  zA_c (zs_bret (by decide +kernel) rfl) <|
  zA_n
def zc_32 : Nat → zmI := zgetC [zcl_32_0]
theorem zmf_32 (l : Launch) : zMf l zc_32 32 := ⟨by decide +kernel, false, (fun h => by cases h), fun pc => zgetC_ok (zA2_c (zmc_32_0 l) (zA2_n)) pc⟩
def zcl_33_0 : List (Nat × zmI) := [(0, zm_iload 1 1), (1, zm_call 4 34 1 true 99), (4, zm_ifne 7 9), (7, zm_push 8 (-1)), (8, zm_iret), (9, zm_iload 10 2), (10, zm_push 11 0), (11, zm_call 14 3 2 true 99), (14, zm_istore 15 2), (15, zm_iload 16 3), (16, zm_aload 17 0), (17, zm_alen 18), (18, zm_call 21 35 2 true 99), (21, zm_istore 22 3), (22, zm_iload 23 2), (23, zm_iload 24 3), (24, zm_iclt 27 29), (27, zm_push 28 (-1)), (28, zm_iret), (29, zm_aload 30 0), (30, zm_iload 31 1), (31, zm_iload 32 2)]
theorem zmc_33_0 (l : Launch) : zAll l "java/lang/StringLatin1" prog_20_method_22_code 4 false (some .int) zcl_33_0 :=
  zA_c (zOk_fl zn_iload (zs_iload_n (q := 1) rfl (by decide +kernel))) <|
  zA_c (zk_S zq_34 zw_435 (by decide +kernel)) <|
  zA_c (zOk_fl zn_ifne (zs_ifne (off := 5) (by decide +kernel) (by decide))) <|
  zA_c (zOk_fl zn_push (zs_iconst (n := (-1)) (by decide +kernel) rfl)) <|
  zA_c (zs_iret (by decide +kernel) rfl) <|
  zA_c (zOk_fl zn_iload (zs_iload_n (q := 2) rfl (by decide +kernel))) <|
  zA_c (zOk_fl zn_push (zs_iconst (n := 0) (by decide +kernel) rfl)) <|
  zA_c (zk_S zq_3 zw_438 (by decide +kernel)) <|
  zA_c (zOk_fl zn_istore (zs_istore_n (q := 2) rfl (by decide +kernel))) <|
  zA_c (zOk_fl zn_iload (zs_iload_n (q := 3) rfl (by decide +kernel))) <|
  zA_c (zOk_fl zn_aload (zs_aload_n (q := 0) rfl (by decide +kernel))) <|
  zA_c (zOk_fl zn_alen (zs_alen (by decide +kernel))) <|
  zA_c (zk_S zq_35 zw_439 (by decide +kernel)) <|
  zA_c (zOk_fl zn_istore (zs_istore_n (q := 3) rfl (by decide +kernel))) <|
  zA_c (zOk_fl zn_iload (zs_iload_n (q := 2) rfl (by decide +kernel))) <|
  zA_c (zOk_fl zn_iload (zs_iload_n (q := 3) rfl (by decide +kernel))) <|
  zA_c (zOk_fl zn_iclt (zs_iclt (off := 5) (by decide +kernel) (by decide))) <|
  zA_c (zOk_fl zn_push (zs_iconst (n := (-1)) (by decide +kernel) rfl)) <|
  zA_c (zs_iret (by decide +kernel) rfl) <|
  zA_c (zOk_fl zn_aload (zs_aload_n (q := 0) rfl (by decide +kernel))) <|
  zA_c (zOk_fl zn_iload (zs_iload_n (q := 1) rfl (by decide +kernel))) <|
  zA_c (zOk_fl zn_iload (zs_iload_n (q := 2) rfl (by decide +kernel))) <|
  zA_n
def zcl_33_1 : List (Nat × zmI) := [(32, zm_iload 33 3), (33, zm_call 36 36 4 true 99), (36, zm_iret)]
theorem zmc_33_1 (l : Launch) : zAll l "java/lang/StringLatin1" prog_20_method_22_code 4 false (some .int) zcl_33_1 :=
  zA_c (zOk_fl zn_iload (zs_iload_n (q := 3) rfl (by decide +kernel))) <|
  zA_c (zk_S zq_36 zw_442 (by decide +kernel)) <|
  zA_c (zs_iret (by decide +kernel) rfl) <|
  zA_n
def zc_33 : Nat → zmI := zgetC [zcl_33_0, zcl_33_1]
theorem zmf_33 (l : Launch) : zMf l zc_33 33 := ⟨by decide +kernel, false, (fun h => by cases h), fun pc => zgetC_ok (zA2_c (zmc_33_0 l) (zA2_c (zmc_33_1 l) (zA2_n))) pc⟩
def zcl_34_0 : List (Nat × zmI) := [(0, zm_iload 1 0), (1, zm_iflt 4 15), (4, zm_iload 5 0), (5, zm_push 8 255), (8, zm_icgt 11 15), (11, zm_push 12 1), (12, zm_goto 16), (15, zm_push 16 0), (16, zm_zret)]
theorem zmc_34_0 (l : Launch) : zAll l "java/lang/StringLatin1" prog_20_method_4_code 1 false (some .boolean) zcl_34_0 :=
  zA_c (zOk_fl zn_iload (zs_iload_n (q := 0) rfl (by decide +kernel))) <|
  zA_c (zOk_fl zn_iflt (zs_iflt (off := 14) (by decide +kernel) (by decide))) <|
  zA_c (zOk_fl zn_iload (zs_iload_n (q := 0) rfl (by decide +kernel))) <|
  zA_c (zOk_fl zn_push (zs_sipush (n := 255) (by decide +kernel) rfl)) <|
  zA_c (zOk_fl zn_icgt (zs_icgt (off := 7) (by decide +kernel) (by decide))) <|
  zA_c (zOk_fl zn_push (zs_iconst (n := 1) (by decide +kernel) rfl)) <|
  zA_c (zOk_fl zn_goto (zs_goto (off := 4) (by decide +kernel) (by decide))) <|
  zA_c (zOk_fl zn_push (zs_iconst (n := 0) (by decide +kernel) rfl)) <|
  zA_c (zs_zret (by decide +kernel) rfl) <|
  zA_n
def zc_34 : Nat → zmI := zgetC [zcl_34_0]
theorem zmf_34 (l : Launch) : zMf l zc_34 34 := ⟨by decide +kernel, false, (fun h => by cases h), fun pc => zgetC_ok (zA2_c (zmc_34_0 l) (zA2_n)) pc⟩
def zcl_35_0 : List (Nat × zmI) := [(0, zm_iload 1 0), (1, zm_iload 2 1), (2, zm_icgt 5 9), (5, zm_iload 6 0), (6, zm_goto 10), (9, zm_iload 10 1), (10, zm_iret)]
theorem zmc_35_0 (l : Launch) : zAll l "java/lang/Math" prog_18_method_69_code 2 false (some .int) zcl_35_0 :=
  zA_c (zOk_fl zn_iload (zs_iload_n (q := 0) rfl (by decide +kernel))) <|
  zA_c (zOk_fl zn_iload (zs_iload_n (q := 1) rfl (by decide +kernel))) <|
  zA_c (zOk_fl zn_icgt (zs_icgt (off := 7) (by decide +kernel) (by decide))) <|
  zA_c (zOk_fl zn_iload (zs_iload_n (q := 0) rfl (by decide +kernel))) <|
  zA_c (zOk_fl zn_goto (zs_goto (off := 4) (by decide +kernel) (by decide))) <|
  zA_c (zOk_fl zn_iload (zs_iload_n (q := 1) rfl (by decide +kernel))) <|
  zA_c (zs_iret (by decide +kernel) rfl) <|
  zA_n
def zc_35 : Nat → zmI := zgetC [zcl_35_0]
theorem zmf_35 (l : Launch) : zMf l zc_35 35 := ⟨by decide +kernel, false, (fun h => by cases h), fun pc => zgetC_ok (zA2_c (zmc_35_0 l) (zA2_n)) pc⟩
def zcl_36_0 : List (Nat × zmI) := [(0, zm_iload 1 1), (1, zm_un 2 z_i2b), (2, zm_istore 4 4), (4, zm_iload 5 2), (5, zm_istore 7 5), (7, zm_iload 9 5), (9, zm_iload 10 3), (10, zm_icge 13 31), (13, zm_aload 14 0), (14, zm_iload 16 5), (16, zm_ald 17 120), (17, zm_iload 19 4), (19, zm_icne 22 25), (22, zm_iload 24 5), (24, zm_iret), (25, zm_iinc 28 5 1), (28, zm_goto 7), (31, zm_push 32 (-1))]
theorem zmc_36_0 (l : Launch) : zAll l "java/lang/StringLatin1" prog_20_method_23_code 6 false (some .int) zcl_36_0 :=
  zA_c (zOk_fl zn_iload (zs_iload_n (q := 1) rfl (by decide +kernel))) <|
  zA_c (zOk_fl zn_un (zs_i2b (by decide +kernel))) <|
  zA_c (zOk_fl zn_istore (zs_istore (by decide +kernel))) <|
  zA_c (zOk_fl zn_iload (zs_iload_n (q := 2) rfl (by decide +kernel))) <|
  zA_c (zOk_fl zn_istore (zs_istore (by decide +kernel))) <|
  zA_c (zOk_fl zn_iload (zs_iload (by decide +kernel))) <|
  zA_c (zOk_fl zn_iload (zs_iload_n (q := 3) rfl (by decide +kernel))) <|
  zA_c (zOk_fl zn_icge (zs_icge (off := 21) (by decide +kernel) (by decide))) <|
  zA_c (zOk_fl zn_aload (zs_aload_n (q := 0) rfl (by decide +kernel))) <|
  zA_c (zOk_fl zn_iload (zs_iload (by decide +kernel))) <|
  zA_c (zOk_fl zn_ald (zs_bald (by decide +kernel))) <|
  zA_c (zOk_fl zn_iload (zs_iload (by decide +kernel))) <|
  zA_c (zOk_fl zn_icne (zs_icne (off := 6) (by decide +kernel) (by decide))) <|
  zA_c (zOk_fl zn_iload (zs_iload (by decide +kernel))) <|
  zA_c (zs_iret (by decide +kernel) rfl) <|
  zA_c (zOk_fl zn_iinc (zs_iinc rfl (by decide +kernel))) <|
  zA_c (zOk_fl zn_goto (zs_goto (off := (-21)) (by decide +kernel) (by decide))) <|
  zA_c (zOk_fl zn_push (zs_iconst (n := (-1)) (by decide +kernel) rfl)) <|
  zA_n
def zcl_36_1 : List (Nat × zmI) := [(32, zm_iret)]
theorem zmc_36_1 (l : Launch) : zAll l "java/lang/StringLatin1" prog_20_method_23_code 6 false (some .int) zcl_36_1 :=
  zA_c (zs_iret (by decide +kernel) rfl) <|
  zA_n
def zc_36 : Nat → zmI := zgetC [zcl_36_0, zcl_36_1]
theorem zmf_36 (l : Launch) : zMf l zc_36 36 := ⟨by decide +kernel, false, (fun h => by cases h), fun pc => zgetC_ok (zA2_c (zmc_36_0 l) (zA2_c (zmc_36_1 l) (zA2_n))) pc⟩
def zcl_49_0 : List (Nat × zmI) := [(0, zm_iload 1 1), (1, zm_ifeq 4 21), (4, zm_aload 5 0), (5, zm_getI 8 3 1), (8, zm_push 10 8), (10, zm_icge 13 21), (13, zm_aload 14 2), (14, zm_iload 15 1), (15, zm_call 18 50 2 true 2), (18, zm_ifeq 21 23), (21, zm_push 22 0), (22, zm_zret), (23, zm_aload 24 2), (24, zm_aload 25 0), (25, zm_getI 28 3 0), (28, zm_push 30 8), (30, zm_bin 31 (fun x y => w32 (x * y))), (31, zm_aload 32 0)]
theorem zmc_49_0 (l : Launch) : zAll l "ChessWire$BoardReader" prog_3_method_6_code 3 false (some .boolean) zcl_49_0 :=
  zA_c (zOk_fl zn_iload (zs_iload_n (q := 1) rfl (by decide +kernel))) <|
  zA_c (zOk_fl zn_ifeq (zs_ifeq (off := 20) (by decide +kernel) (by decide))) <|
  zA_c (zOk_fl zn_aload (zs_aload_n (q := 0) rfl (by decide +kernel))) <|
  zA_c (zOk_fl zn_getI (zs_getI (k := 1) rfl (by decide) (by decide +kernel) rfl (by decide +kernel) zw_76)) <|
  zA_c (zOk_fl zn_push (zs_bipush (n := 8) (by decide +kernel) rfl)) <|
  zA_c (zOk_fl zn_icge (zs_icge (off := 11) (by decide +kernel) (by decide))) <|
  zA_c (zOk_fl zn_aload (zs_aload_n (q := 2) rfl (by decide +kernel))) <|
  zA_c (zOk_fl zn_iload (zs_iload_n (q := 1) rfl (by decide +kernel))) <|
  zA_c (zk_V zq_50 zw_499 rfl (by decide +kernel)) <|
  zA_c (zOk_fl zn_ifeq (zs_ifeq (off := 5) (by decide +kernel) (by decide))) <|
  zA_c (zOk_fl zn_push (zs_iconst (n := 0) (by decide +kernel) rfl)) <|
  zA_c (zs_zret (by decide +kernel) rfl) <|
  zA_c (zOk_fl zn_aload (zs_aload_n (q := 2) rfl (by decide +kernel))) <|
  zA_c (zOk_fl zn_aload (zs_aload_n (q := 0) rfl (by decide +kernel))) <|
  zA_c (zOk_fl zn_getI (zs_getI (k := 0) rfl (by decide) (by decide +kernel) rfl (by decide +kernel) zw_75)) <|
  zA_c (zOk_fl zn_push (zs_bipush (n := 8) (by decide +kernel) rfl)) <|
  zA_c (zOk_fl zn_bin (zs_imul (by decide +kernel))) <|
  zA_c (zOk_fl zn_aload (zs_aload_n (q := 0) rfl (by decide +kernel))) <|
  zA_n
def zcl_49_1 : List (Nat × zmI) := [(32, zm_getI 35 3 1), (35, zm_bin 36 (fun x y => w32 (x + y))), (36, zm_iload 37 1), (37, zm_call 40 51 3 false 2), (40, zm_aload 41 0), (41, zm_dup 42), (42, zm_getI 45 3 1), (45, zm_push 46 1), (46, zm_bin 47 (fun x y => w32 (x + y))), (47, zm_putI 50 3 1), (50, zm_push 51 1), (51, zm_zret)]
theorem zmc_49_1 (l : Launch) : zAll l "ChessWire$BoardReader" prog_3_method_6_code 3 false (some .boolean) zcl_49_1 :=
  zA_c (zOk_fl zn_getI (zs_getI (k := 1) rfl (by decide) (by decide +kernel) rfl (by decide +kernel) zw_76)) <|
  zA_c (zOk_fl zn_bin (zs_iadd (by decide +kernel))) <|
  zA_c (zOk_fl zn_iload (zs_iload_n (q := 1) rfl (by decide +kernel))) <|
  zA_c (zk_V zq_51 zw_503 rfl (by decide +kernel)) <|
  zA_c (zOk_fl zn_aload (zs_aload_n (q := 0) rfl (by decide +kernel))) <|
  zA_c (zOk_fl zn_dup (zs_dup (by decide +kernel))) <|
  zA_c (zOk_fl zn_getI (zs_getI (k := 1) rfl (by decide) (by decide +kernel) rfl (by decide +kernel) zw_76)) <|
  zA_c (zOk_fl zn_push (zs_iconst (n := 1) (by decide +kernel) rfl)) <|
  zA_c (zOk_fl zn_bin (zs_iadd (by decide +kernel))) <|
  zA_c (zOk_sn zn_putI (zs_putI (k := 1) rfl (by decide) (by decide +kernel) rfl rfl (by decide +kernel) zw_76)) <|
  zA_c (zOk_fl zn_push (zs_iconst (n := 1) (by decide +kernel) rfl)) <|
  zA_c (zs_zret (by decide +kernel) rfl) <|
  zA_n
def zc_49 : Nat → zmI := zgetC [zcl_49_0, zcl_49_1]
theorem zmf_49 (l : Launch) : zMf l zc_49 49 := ⟨by decide +kernel, false, (fun h => by cases h), fun pc => zgetC_ok (zA2_c (zmc_49_0 l) (zA2_c (zmc_49_1 l) (zA2_n))) pc⟩
def zcl_50_0 : List (Nat × zmI) := [(0, zm_iload 1 1), (1, zm_push 3 6), (3, zm_icne 6 22), (6, zm_aload 7 0), (7, zm_getI 10 2 2), (10, zm_push 11 (-1)), (11, zm_iceq 14 18), (14, zm_push 15 1), (15, zm_goto 41), (18, zm_push 19 0), (19, zm_goto 41), (22, zm_iload 23 1), (23, zm_push 25 (-6)), (25, zm_icne 28 40), (28, zm_aload 29 0), (29, zm_getI 32 2 3)]
theorem zmc_50_0 (l : Launch) : zAll l "ChessWire$Board" prog_2_method_8_code 2 false (some .boolean) zcl_50_0 :=
  zA_c (zOk_fl zn_iload (zs_iload_n (q := 1) rfl (by decide +kernel))) <|
  zA_c (zOk_fl zn_push (zs_bipush (n := 6) (by decide +kernel) rfl)) <|
  zA_c (zOk_fl zn_icne (zs_icne (off := 19) (by decide +kernel) (by decide))) <|
  zA_c (zOk_fl zn_aload (zs_aload_n (q := 0) rfl (by decide +kernel))) <|
  zA_c (zOk_fl zn_getI (zs_getI (k := 2) rfl (by decide) (by decide +kernel) rfl (by decide +kernel) zw_58)) <|
  zA_c (zOk_fl zn_push (zs_iconst (n := (-1)) (by decide +kernel) rfl)) <|
  zA_c (zOk_fl zn_iceq (zs_iceq (off := 7) (by decide +kernel) (by decide))) <|
  zA_c (zOk_fl zn_push (zs_iconst (n := 1) (by decide +kernel) rfl)) <|
  zA_c (zOk_fl zn_goto (zs_goto (off := 26) (by decide +kernel) (by decide))) <|
  zA_c (zOk_fl zn_push (zs_iconst (n := 0) (by decide +kernel) rfl)) <|
  zA_c (zOk_fl zn_goto (zs_goto (off := 22) (by decide +kernel) (by decide))) <|
  zA_c (zOk_fl zn_iload (zs_iload_n (q := 1) rfl (by decide +kernel))) <|
  zA_c (zOk_fl zn_push (zs_bipush (n := (-6)) (by decide +kernel) rfl)) <|
  zA_c (zOk_fl zn_icne (zs_icne (off := 15) (by decide +kernel) (by decide))) <|
  zA_c (zOk_fl zn_aload (zs_aload_n (q := 0) rfl (by decide +kernel))) <|
  zA_c (zOk_fl zn_getI (zs_getI (k := 3) rfl (by decide) (by decide +kernel) rfl (by decide +kernel) zw_59)) <|
  zA_n
def zcl_50_1 : List (Nat × zmI) := [(32, zm_push 33 (-1)), (33, zm_iceq 36 40), (36, zm_push 37 1), (37, zm_goto 41), (40, zm_push 41 0), (41, zm_zret)]
theorem zmc_50_1 (l : Launch) : zAll l "ChessWire$Board" prog_2_method_8_code 2 false (some .boolean) zcl_50_1 :=
  zA_c (zOk_fl zn_push (zs_iconst (n := (-1)) (by decide +kernel) rfl)) <|
  zA_c (zOk_fl zn_iceq (zs_iceq (off := 7) (by decide +kernel) (by decide))) <|
  zA_c (zOk_fl zn_push (zs_iconst (n := 1) (by decide +kernel) rfl)) <|
  zA_c (zOk_fl zn_goto (zs_goto (off := 4) (by decide +kernel) (by decide))) <|
  zA_c (zOk_fl zn_push (zs_iconst (n := 0) (by decide +kernel) rfl)) <|
  zA_c (zs_zret (by decide +kernel) rfl) <|
  zA_n
def zc_50 : Nat → zmI := zgetC [zcl_50_0, zcl_50_1]
theorem zmf_50 (l : Launch) : zMf l zc_50 50 := ⟨by decide +kernel, false, (fun h => by cases h), fun pc => zgetC_ok (zA2_c (zmc_50_0 l) (zA2_c (zmc_50_1 l) (zA2_n))) pc⟩
def zcl_51_0 : List (Nat × zmI) := [(0, zm_iload 1 1), (1, zm_iflt 4 10), (4, zm_iload 5 1), (5, zm_push 7 64), (7, zm_iclt 10 11), (10, zm_vret), (11, zm_aload 12 0), (12, zm_getR 15 2 0), (15, zm_iload 16 1), (16, zm_iload 17 2), (17, zm_iast 18), (18, zm_iload 19 2), (19, zm_push 21 6), (21, zm_icne 24 32), (24, zm_aload 25 0), (25, zm_iload 26 1), (26, zm_putI 29 2 2), (29, zm_goto 43)]
theorem zmc_51_0 (l : Launch) : zAll l "ChessWire$Board" prog_2_method_5_code 3 false (none) zcl_51_0 :=
  zA_c (zOk_fl zn_iload (zs_iload_n (q := 1) rfl (by decide +kernel))) <|
  zA_c (zOk_fl zn_iflt (zs_iflt (off := 9) (by decide +kernel) (by decide))) <|
  zA_c (zOk_fl zn_iload (zs_iload_n (q := 1) rfl (by decide +kernel))) <|
  zA_c (zOk_fl zn_push (zs_bipush (n := 64) (by decide +kernel) rfl)) <|
  zA_c (zOk_fl zn_iclt (zs_iclt (off := 4) (by decide +kernel) (by decide))) <|
  zA_c (zs_vret (by decide +kernel) rfl) <|
  zA_c (zOk_fl zn_aload (zs_aload_n (q := 0) rfl (by decide +kernel))) <|
  zA_c (zOk_fl zn_getR (zs_getR (k := 0) rfl (by decide) (by decide +kernel) rfl (by decide +kernel) zw_56)) <|
  zA_c (zOk_fl zn_iload (zs_iload_n (q := 1) rfl (by decide +kernel))) <|
  zA_c (zOk_fl zn_iload (zs_iload_n (q := 2) rfl (by decide +kernel))) <|
  zA_c (zOk_sn zn_iast (zs_iast (by decide +kernel))) <|
  zA_c (zOk_fl zn_iload (zs_iload_n (q := 2) rfl (by decide +kernel))) <|
  zA_c (zOk_fl zn_push (zs_bipush (n := 6) (by decide +kernel) rfl)) <|
  zA_c (zOk_fl zn_icne (zs_icne (off := 11) (by decide +kernel) (by decide))) <|
  zA_c (zOk_fl zn_aload (zs_aload_n (q := 0) rfl (by decide +kernel))) <|
  zA_c (zOk_fl zn_iload (zs_iload_n (q := 1) rfl (by decide +kernel))) <|
  zA_c (zOk_sn zn_putI (zs_putI (k := 2) rfl (by decide) (by decide +kernel) rfl rfl (by decide +kernel) zw_58)) <|
  zA_c (zOk_fl zn_goto (zs_goto (off := 14) (by decide +kernel) (by decide))) <|
  zA_n
def zcl_51_1 : List (Nat × zmI) := [(32, zm_iload 33 2), (33, zm_push 35 (-6)), (35, zm_icne 38 43), (38, zm_aload 39 0), (39, zm_iload 40 1), (40, zm_putI 43 2 3), (43, zm_vret)]
theorem zmc_51_1 (l : Launch) : zAll l "ChessWire$Board" prog_2_method_5_code 3 false (none) zcl_51_1 :=
  zA_c (zOk_fl zn_iload (zs_iload_n (q := 2) rfl (by decide +kernel))) <|
  zA_c (zOk_fl zn_push (zs_bipush (n := (-6)) (by decide +kernel) rfl)) <|
  zA_c (zOk_fl zn_icne (zs_icne (off := 8) (by decide +kernel) (by decide))) <|
  zA_c (zOk_fl zn_aload (zs_aload_n (q := 0) rfl (by decide +kernel))) <|
  zA_c (zOk_fl zn_iload (zs_iload_n (q := 1) rfl (by decide +kernel))) <|
  zA_c (zOk_sn zn_putI (zs_putI (k := 3) rfl (by decide) (by decide +kernel) rfl rfl (by decide +kernel) zw_59)) <|
  zA_c (zs_vret (by decide +kernel) rfl) <|
  zA_n
def zc_51 : Nat → zmI := zgetC [zcl_51_0, zcl_51_1]
theorem zmf_51 (l : Launch) : zMf l zc_51 51 := ⟨by decide +kernel, false, (fun h => by cases h), fun pc => zgetC_ok (zA2_c (zmc_51_0 l) (zA2_c (zmc_51_1 l) (zA2_n))) pc⟩
def zcl_52_0 : List (Nat × zmI) := [(0, zm_aload 1 0), (1, zm_getI 4 3 2), (4, zm_push 5 2), (5, zm_icne 8 30), (8, zm_aload 9 1), (9, zm_push 11 6), (11, zm_call 14 50 2 true 2), (14, zm_ifeq 17 30), (17, zm_aload 18 1), (18, zm_push 20 (-6)), (20, zm_call 23 50 2 true 2), (23, zm_ifeq 26 30), (26, zm_push 27 1), (27, zm_goto 31), (30, zm_push 31 0), (31, zm_zret)]
theorem zmc_52_0 (l : Launch) : zAll l "ChessWire$BoardReader" prog_3_method_3_code 2 false (some .boolean) zcl_52_0 :=
  zA_c (zOk_fl zn_aload (zs_aload_n (q := 0) rfl (by decide +kernel))) <|
  zA_c (zOk_fl zn_getI (zs_getI (k := 2) rfl (by decide) (by decide +kernel) rfl (by decide +kernel) zw_77)) <|
  zA_c (zOk_fl zn_push (zs_iconst (n := 2) (by decide +kernel) rfl)) <|
  zA_c (zOk_fl zn_icne (zs_icne (off := 25) (by decide +kernel) (by decide))) <|
  zA_c (zOk_fl zn_aload (zs_aload_n (q := 1) rfl (by decide +kernel))) <|
  zA_c (zOk_fl zn_push (zs_bipush (n := 6) (by decide +kernel) rfl)) <|
  zA_c (zk_V zq_50 zw_499 rfl (by decide +kernel)) <|
  zA_c (zOk_fl zn_ifeq (zs_ifeq (off := 16) (by decide +kernel) (by decide))) <|
  zA_c (zOk_fl zn_aload (zs_aload_n (q := 1) rfl (by decide +kernel))) <|
  zA_c (zOk_fl zn_push (zs_bipush (n := (-6)) (by decide +kernel) rfl)) <|
  zA_c (zk_V zq_50 zw_499 rfl (by decide +kernel)) <|
  zA_c (zOk_fl zn_ifeq (zs_ifeq (off := 7) (by decide +kernel) (by decide))) <|
  zA_c (zOk_fl zn_push (zs_iconst (n := 1) (by decide +kernel) rfl)) <|
  zA_c (zOk_fl zn_goto (zs_goto (off := 4) (by decide +kernel) (by decide))) <|
  zA_c (zOk_fl zn_push (zs_iconst (n := 0) (by decide +kernel) rfl)) <|
  zA_c (zs_zret (by decide +kernel) rfl) <|
  zA_n
def zc_52 : Nat → zmI := zgetC [zcl_52_0]
theorem zmf_52 (l : Launch) : zMf l zc_52 52 := ⟨by decide +kernel, false, (fun h => by cases h), fun pc => zgetC_ok (zA2_c (zmc_52_0 l) (zA2_n)) pc⟩
def zcl_53_0 : List (Nat × zmI) := [(0, zm_aload 1 0), (1, zm_iload 2 1), (2, zm_call 5 15 2 true 0), (5, zm_ifeq 8 11), (8, zm_push 10 (-2)), (10, zm_iret), (11, zm_aload 12 0), (12, zm_getR 15 0 0), (15, zm_iload 16 1), (16, zm_aald 17 103), (17, zm_call 20 22 1 true 1), (20, zm_istore 21 2), (21, zm_aload 22 0), (22, zm_getR 25 0 0), (25, zm_iload 26 1), (26, zm_aald 27 103), (27, zm_call 30 54 1 false 1), (30, zm_aload 31 0), (31, zm_iload 32 1)]
theorem zmc_53_0 (l : Launch) : zAll l "ChessWire" prog_1_method_3_code 3 false (some .int) zcl_53_0 :=
  zA_c (zOk_fl zn_aload (zs_aload_n (q := 0) rfl (by decide +kernel))) <|
  zA_c (zOk_fl zn_iload (zs_iload_n (q := 1) rfl (by decide +kernel))) <|
  zA_c (zk_V zq_15 zw_359 rfl (by decide +kernel)) <|
  zA_c (zOk_fl zn_ifeq (zs_ifeq (off := 6) (by decide +kernel) (by decide))) <|
  zA_c (zOk_fl zn_push (zs_bipush (n := (-2)) (by decide +kernel) rfl)) <|
  zA_c (zs_iret (by decide +kernel) rfl) <|
  zA_c (zOk_fl zn_aload (zs_aload_n (q := 0) rfl (by decide +kernel))) <|
  zA_c (zOk_fl zn_getR (zs_getR (k := 0) rfl (by decide) (by decide +kernel) rfl (by decide +kernel) zw_303)) <|
  zA_c (zOk_fl zn_iload (zs_iload_n (q := 1) rfl (by decide +kernel))) <|
  zA_c (zOk_fl zn_aald (zs_aald (t := 3) (by decide) (by decide) rfl rfl (by decide +kernel))) <|
  zA_c (zk_V zq_22 zw_511 rfl (by decide +kernel)) <|
  zA_c (zOk_fl zn_istore (zs_istore_n (q := 2) rfl (by decide +kernel))) <|
  zA_c (zOk_fl zn_aload (zs_aload_n (q := 0) rfl (by decide +kernel))) <|
  zA_c (zOk_fl zn_getR (zs_getR (k := 0) rfl (by decide) (by decide +kernel) rfl (by decide +kernel) zw_303)) <|
  zA_c (zOk_fl zn_iload (zs_iload_n (q := 1) rfl (by decide +kernel))) <|
  zA_c (zOk_fl zn_aald (zs_aald (t := 3) (by decide) (by decide) rfl rfl (by decide +kernel))) <|
  zA_c (zk_V zq_54 zw_517 rfl (by decide +kernel)) <|
  zA_c (zOk_fl zn_aload (zs_aload_n (q := 0) rfl (by decide +kernel))) <|
  zA_c (zOk_fl zn_iload (zs_iload_n (q := 1) rfl (by decide +kernel))) <|
  zA_n
def zcl_53_1 : List (Nat × zmI) := [(32, zm_call 35 17 2 false 0), (35, zm_iload 36 2), (36, zm_iret)]
theorem zmc_53_1 (l : Launch) : zAll l "ChessWire" prog_1_method_3_code 3 false (some .int) zcl_53_1 :=
  zA_c (zk_V zq_17 zw_367 rfl (by decide +kernel)) <|
  zA_c (zOk_fl zn_iload (zs_iload_n (q := 2) rfl (by decide +kernel))) <|
  zA_c (zs_iret (by decide +kernel) rfl) <|
  zA_n
def zc_53 : Nat → zmI := zgetC [zcl_53_0, zcl_53_1]
theorem zmf_53 (l : Launch) : zMf l zc_53 53 := ⟨by decide +kernel, false, (fun h => by cases h), fun pc => zgetC_ok (zA2_c (zmc_53_0 l) (zA2_c (zmc_53_1 l) (zA2_n))) pc⟩
def zcl_54_0 : List (Nat × zmI) := [(0, zm_aload 1 0), (1, zm_push 2 0), (2, zm_putI 5 1 1), (5, zm_vret)]
theorem zmc_54_0 (l : Launch) : zAll l "ChessWire$Text" prog_12_method_5_code 1 false (none) zcl_54_0 :=
  zA_c (zOk_fl zn_aload (zs_aload_n (q := 0) rfl (by decide +kernel))) <|
  zA_c (zOk_fl zn_push (zs_iconst (n := 0) (by decide +kernel) rfl)) <|
  zA_c (zOk_sn zn_putI (zs_putI (k := 1) rfl (by decide) (by decide +kernel) rfl rfl (by decide +kernel) zw_43)) <|
  zA_c (zs_vret (by decide +kernel) rfl) <|
  zA_n
def zc_54 : Nat → zmI := zgetC [zcl_54_0]
theorem zmf_54 (l : Launch) : zMf l zc_54 54 := ⟨by decide +kernel, false, (fun h => by cases h), fun pc => zgetC_ok (zA2_c (zmc_54_0 l) (zA2_n)) pc⟩
def zcl_55_0 : List (Nat × zmI) := [(0, zm_iload 1 1), (1, zm_tsw 53 0 2 [28, 33, 43]), (28, zm_aload 29 0), (29, zm_getI 32 0 13)]
theorem zmc_55_0 (l : Launch) : zAll l "ChessWire" prog_1_method_4_code 2 false (some .int) zcl_55_0 :=
  zA_c (zOk_fl zn_iload (zs_iload_n (q := 1) rfl (by decide +kernel))) <|
  zA_c (zOk_fl zn_tsw (zs_tsw (d0 := 52) (offs := #[27, 32, 42]) (len := 27) (by decide +kernel) (by decide) (by decide) (by decide))) <|
  zA_c (zOk_fl zn_aload (zs_aload_n (q := 0) rfl (by decide +kernel))) <|
  zA_c (zOk_fl zn_getI (zs_getI (k := 13) rfl (by decide) (by decide +kernel) rfl (by decide +kernel) zw_316)) <|
  zA_n
def zcl_55_1 : List (Nat × zmI) := [(32, zm_iret), (33, zm_aload 34 0), (34, zm_getR 37 0 0), (37, zm_push 38 1), (38, zm_aald 39 103), (39, zm_call 42 56 1 true 99), (42, zm_iret), (43, zm_aload 44 0), (44, zm_getR 47 0 0), (47, zm_push 48 2), (48, zm_aald 49 103), (49, zm_call 52 61 1 true 99), (52, zm_iret), (53, zm_push 55 (-2)), (55, zm_iret)]
theorem zmc_55_1 (l : Launch) : zAll l "ChessWire" prog_1_method_4_code 2 false (some .int) zcl_55_1 :=
  zA_c (zs_iret (by decide +kernel) rfl) <|
  zA_c (zOk_fl zn_aload (zs_aload_n (q := 0) rfl (by decide +kernel))) <|
  zA_c (zOk_fl zn_getR (zs_getR (k := 0) rfl (by decide) (by decide +kernel) rfl (by decide +kernel) zw_303)) <|
  zA_c (zOk_fl zn_push (zs_iconst (n := 1) (by decide +kernel) rfl)) <|
  zA_c (zOk_fl zn_aald (zs_aald (t := 3) (by decide) (by decide) rfl rfl (by decide +kernel))) <|
  zA_c (zk_S zq_56 zw_525 (by decide +kernel)) <|
  zA_c (zs_iret (by decide +kernel) rfl) <|
  zA_c (zOk_fl zn_aload (zs_aload_n (q := 0) rfl (by decide +kernel))) <|
  zA_c (zOk_fl zn_getR (zs_getR (k := 0) rfl (by decide) (by decide +kernel) rfl (by decide +kernel) zw_303)) <|
  zA_c (zOk_fl zn_push (zs_iconst (n := 2) (by decide +kernel) rfl)) <|
  zA_c (zOk_fl zn_aald (zs_aald (t := 3) (by decide) (by decide) rfl rfl (by decide +kernel))) <|
  zA_c (zk_S zq_61 zw_543 (by decide +kernel)) <|
  zA_c (zs_iret (by decide +kernel) rfl) <|
  zA_c (zOk_fl zn_push (zs_bipush (n := (-2)) (by decide +kernel) rfl)) <|
  zA_c (zs_iret (by decide +kernel) rfl) <|
  zA_n
def zc_55 : Nat → zmI := zgetC [zcl_55_0, zcl_55_1]
theorem zmf_55 (l : Launch) : zMf l zc_55 55 := ⟨by decide +kernel, false, (fun h => by cases h), fun pc => zgetC_ok (zA2_c (zmc_55_0 l) (zA2_c (zmc_55_1 l) (zA2_n))) pc⟩
def zcl_56_0 : List (Nat × zmI) := [(0, zm_push 1 0), (1, zm_istore 2 1), (2, zm_push 3 0), (3, zm_istore 4 2), (4, zm_iload 5 2), (5, zm_aload 6 0), (6, zm_call 9 22 1 true 1), (9, zm_icge 12 36), (12, zm_iload 13 1), (13, zm_aload 14 0), (14, zm_iload 15 2), (15, zm_call 18 23 2 true 1), (18, zm_call 21 57 2 true 99), (21, zm_istore 22 1), (22, zm_iload 23 1), (23, zm_push 25 7), (25, zm_icne 28 30), (28, zm_iload 29 2), (29, zm_iret), (30, zm_iinc 33 2 1)]
theorem zmc_56_0 (l : Launch) : zAll l "ChessWire$Saying" prog_10_method_6_code 3 false (some .int) zcl_56_0 :=
  zA_c (zOk_fl zn_push (zs_iconst (n := 0) (by decide +kernel) rfl)) <|
  zA_c (zOk_fl zn_istore (zs_istore_n (q := 1) rfl (by decide +kernel))) <|
  zA_c (zOk_fl zn_push (zs_iconst (n := 0) (by decide +kernel) rfl)) <|
  zA_c (zOk_fl zn_istore (zs_istore_n (q := 2) rfl (by decide +kernel))) <|
  zA_c (zOk_fl zn_iload (zs_iload_n (q := 2) rfl (by decide +kernel))) <|
  zA_c (zOk_fl zn_aload (zs_aload_n (q := 0) rfl (by decide +kernel))) <|
  zA_c (zk_V zq_22 zw_528 rfl (by decide +kernel)) <|
  zA_c (zOk_fl zn_icge (zs_icge (off := 27) (by decide +kernel) (by decide))) <|
  zA_c (zOk_fl zn_iload (zs_iload_n (q := 1) rfl (by decide +kernel))) <|
  zA_c (zOk_fl zn_aload (zs_aload_n (q := 0) rfl (by decide +kernel))) <|
  zA_c (zOk_fl zn_iload (zs_iload_n (q := 2) rfl (by decide +kernel))) <|
  zA_c (zk_V zq_23 zw_529 rfl (by decide +kernel)) <|
  zA_c (zk_S zq_57 zw_530 (by decide +kernel)) <|
  zA_c (zOk_fl zn_istore (zs_istore_n (q := 1) rfl (by decide +kernel))) <|
  zA_c (zOk_fl zn_iload (zs_iload_n (q := 1) rfl (by decide +kernel))) <|
  zA_c (zOk_fl zn_push (zs_bipush (n := 7) (by decide +kernel) rfl)) <|
  zA_c (zOk_fl zn_icne (zs_icne (off := 5) (by decide +kernel) (by decide))) <|
  zA_c (zOk_fl zn_iload (zs_iload_n (q := 2) rfl (by decide +kernel))) <|
  zA_c (zs_iret (by decide +kernel) rfl) <|
  zA_c (zOk_fl zn_iinc (zs_iinc rfl (by decide +kernel))) <|
  zA_n
def zcl_56_1 : List (Nat × zmI) := [(33, zm_goto 4), (36, zm_iload 37 1), (37, zm_call 40 60 1 true 99), (40, zm_ifeq 43 47), (43, zm_push 44 (-1)), (44, zm_goto 51), (47, zm_aload 48 0), (48, zm_call 51 22 1 true 1), (51, zm_iret)]
theorem zmc_56_1 (l : Launch) : zAll l "ChessWire$Saying" prog_10_method_6_code 3 false (some .int) zcl_56_1 :=
  zA_c (zOk_fl zn_goto (zs_goto (off := (-29)) (by decide +kernel) (by decide))) <|
  zA_c (zOk_fl zn_iload (zs_iload_n (q := 1) rfl (by decide +kernel))) <|
  zA_c (zk_S zq_60 zw_540 (by decide +kernel)) <|
  zA_c (zOk_fl zn_ifeq (zs_ifeq (off := 7) (by decide +kernel) (by decide))) <|
  zA_c (zOk_fl zn_push (zs_iconst (n := (-1)) (by decide +kernel) rfl)) <|
  zA_c (zOk_fl zn_goto (zs_goto (off := 7) (by decide +kernel) (by decide))) <|
  zA_c (zOk_fl zn_aload (zs_aload_n (q := 0) rfl (by decide +kernel))) <|
  zA_c (zk_V zq_22 zw_528 rfl (by decide +kernel)) <|
  zA_c (zs_iret (by decide +kernel) rfl) <|
  zA_n
def zc_56 : Nat → zmI := zgetC [zcl_56_0, zcl_56_1]
theorem zmf_56 (l : Launch) : zMf l zc_56 56 := ⟨by decide +kernel, false, (fun h => by cases h), fun pc => zgetC_ok (zA2_c (zmc_56_0 l) (zA2_c (zmc_56_1 l) (zA2_n))) pc⟩
def zcl_57_0 : List (Nat × zmI) := [(0, zm_iload 1 1), (1, zm_call 4 58 1 true 99), (4, zm_istore 5 2), (5, zm_iload 6 1), (6, zm_call 9 59 1 true 99), (9, zm_istore 10 3), (10, zm_iload 11 0), (11, zm_tsw 137 0 5 [48, 76, 95, 114, 125, 114])]
theorem zmc_57_0 (l : Launch) : zAll l "ChessWire$Saying" prog_10_method_4_code 4 false (some .int) zcl_57_0 :=
  zA_c (zOk_fl zn_iload (zs_iload_n (q := 1) rfl (by decide +kernel))) <|
  zA_c (zk_S zq_58 zw_533 (by decide +kernel)) <|
  zA_c (zOk_fl zn_istore (zs_istore_n (q := 2) rfl (by decide +kernel))) <|
  zA_c (zOk_fl zn_iload (zs_iload_n (q := 1) rfl (by decide +kernel))) <|
  zA_c (zk_S zq_59 zw_536 (by decide +kernel)) <|
  zA_c (zOk_fl zn_istore (zs_istore_n (q := 3) rfl (by decide +kernel))) <|
  zA_c (zOk_fl zn_iload (zs_iload_n (q := 0) rfl (by decide +kernel))) <|
  zA_c (zOk_fl zn_tsw (zs_tsw (d0 := 126) (offs := #[37, 65, 84, 103, 114, 103]) (len := 37) (by decide +kernel) (by decide) (by decide) (by decide))) <|
  zA_n
def zcl_57_1 : List (Nat × zmI) := [(48, zm_iload 49 1), (49, zm_call 52 27 1 true 99), (52, zm_ifle 55 57), (55, zm_push 56 1), (56, zm_iret), (57, zm_iload 58 2), (58, zm_ifeq 61 65), (61, zm_push 62 2), (62, zm_goto 75)]
theorem zmc_57_1 (l : Launch) : zAll l "ChessWire$Saying" prog_10_method_4_code 4 false (some .int) zcl_57_1 :=
  zA_c (zOk_fl zn_iload (zs_iload_n (q := 1) rfl (by decide +kernel))) <|
  zA_c (zk_S zq_27 zw_539 (by decide +kernel)) <|
  zA_c (zOk_fl zn_ifle (zs_ifle (off := 5) (by decide +kernel) (by decide))) <|
  zA_c (zOk_fl zn_push (zs_iconst (n := 1) (by decide +kernel) rfl)) <|
  zA_c (zs_iret (by decide +kernel) rfl) <|
  zA_c (zOk_fl zn_iload (zs_iload_n (q := 2) rfl (by decide +kernel))) <|
  zA_c (zOk_fl zn_ifeq (zs_ifeq (off := 7) (by decide +kernel) (by decide))) <|
  zA_c (zOk_fl zn_push (zs_iconst (n := 2) (by decide +kernel) rfl)) <|
  zA_c (zOk_fl zn_goto (zs_goto (off := 13) (by decide +kernel) (by decide))) <|
  zA_n
def zcl_57_2 : List (Nat × zmI) := [(65, zm_iload 66 3), (66, zm_ifeq 69 73), (69, zm_push 70 3), (70, zm_goto 75), (73, zm_push 75 7), (75, zm_iret), (76, zm_iload 77 2), (77, zm_ifeq 80 84), (80, zm_push 81 2), (81, zm_goto 94), (84, zm_iload 85 3), (85, zm_ifeq 88 92), (88, zm_push 89 3), (89, zm_goto 94), (92, zm_push 94 7), (94, zm_iret), (95, zm_iload 96 2)]
theorem zmc_57_2 (l : Launch) : zAll l "ChessWire$Saying" prog_10_method_4_code 4 false (some .int) zcl_57_2 :=
  zA_c (zOk_fl zn_iload (zs_iload_n (q := 3) rfl (by decide +kernel))) <|
  zA_c (zOk_fl zn_ifeq (zs_ifeq (off := 7) (by decide +kernel) (by decide))) <|
  zA_c (zOk_fl zn_push (zs_iconst (n := 3) (by decide +kernel) rfl)) <|
  zA_c (zOk_fl zn_goto (zs_goto (off := 5) (by decide +kernel) (by decide))) <|
  zA_c (zOk_fl zn_push (zs_bipush (n := 7) (by decide +kernel) rfl)) <|
  zA_c (zs_iret (by decide +kernel) rfl) <|
  zA_c (zOk_fl zn_iload (zs_iload_n (q := 2) rfl (by decide +kernel))) <|
  zA_c (zOk_fl zn_ifeq (zs_ifeq (off := 7) (by decide +kernel) (by decide))) <|
  zA_c (zOk_fl zn_push (zs_iconst (n := 2) (by decide +kernel) rfl)) <|
  zA_c (zOk_fl zn_goto (zs_goto (off := 13) (by decide +kernel) (by decide))) <|
  zA_c (zOk_fl zn_iload (zs_iload_n (q := 3) rfl (by decide +kernel))) <|
  zA_c (zOk_fl zn_ifeq (zs_ifeq (off := 7) (by decide +kernel) (by decide))) <|
  zA_c (zOk_fl zn_push (zs_iconst (n := 3) (by decide +kernel) rfl)) <|
  zA_c (zOk_fl zn_goto (zs_goto (off := 5) (by decide +kernel) (by decide))) <|
  zA_c (zOk_fl zn_push (zs_bipush (n := 7) (by decide +kernel) rfl)) <|
  zA_c (zs_iret (by decide +kernel) rfl) <|
  zA_c (zOk_fl zn_iload (zs_iload_n (q := 2) rfl (by decide +kernel))) <|
  zA_n
def zcl_57_3 : List (Nat × zmI) := [(96, zm_ifeq 99 103), (99, zm_push 100 4), (100, zm_goto 113), (103, zm_iload 104 3), (104, zm_ifeq 107 111), (107, zm_push 108 5), (108, zm_goto 113), (111, zm_push 113 7), (113, zm_iret), (114, zm_iload 115 2), (115, zm_ifeq 118 122), (118, zm_push 119 4), (119, zm_goto 124), (122, zm_push 124 7), (124, zm_iret), (125, zm_iload 126 3), (126, zm_ifeq 129 134)]
theorem zmc_57_3 (l : Launch) : zAll l "ChessWire$Saying" prog_10_method_4_code 4 false (some .int) zcl_57_3 :=
  zA_c (zOk_fl zn_ifeq (zs_ifeq (off := 7) (by decide +kernel) (by decide))) <|
  zA_c (zOk_fl zn_push (zs_iconst (n := 4) (by decide +kernel) rfl)) <|
  zA_c (zOk_fl zn_goto (zs_goto (off := 13) (by decide +kernel) (by decide))) <|
  zA_c (zOk_fl zn_iload (zs_iload_n (q := 3) rfl (by decide +kernel))) <|
  zA_c (zOk_fl zn_ifeq (zs_ifeq (off := 7) (by decide +kernel) (by decide))) <|
  zA_c (zOk_fl zn_push (zs_iconst (n := 5) (by decide +kernel) rfl)) <|
  zA_c (zOk_fl zn_goto (zs_goto (off := 5) (by decide +kernel) (by decide))) <|
  zA_c (zOk_fl zn_push (zs_bipush (n := 7) (by decide +kernel) rfl)) <|
  zA_c (zs_iret (by decide +kernel) rfl) <|
  zA_c (zOk_fl zn_iload (zs_iload_n (q := 2) rfl (by decide +kernel))) <|
  zA_c (zOk_fl zn_ifeq (zs_ifeq (off := 7) (by decide +kernel) (by decide))) <|
  zA_c (zOk_fl zn_push (zs_iconst (n := 4) (by decide +kernel) rfl)) <|
  zA_c (zOk_fl zn_goto (zs_goto (off := 5) (by decide +kernel) (by decide))) <|
  zA_c (zOk_fl zn_push (zs_bipush (n := 7) (by decide +kernel) rfl)) <|
  zA_c (zs_iret (by decide +kernel) rfl) <|
  zA_c (zOk_fl zn_iload (zs_iload_n (q := 3) rfl (by decide +kernel))) <|
  zA_c (zOk_fl zn_ifeq (zs_ifeq (off := 8) (by decide +kernel) (by decide))) <|
  zA_n
def zcl_57_4 : List (Nat × zmI) := [(129, zm_push 131 6), (131, zm_goto 136), (134, zm_push 136 7), (136, zm_iret), (137, zm_push 139 7), (139, zm_iret)]
theorem zmc_57_4 (l : Launch) : zAll l "ChessWire$Saying" prog_10_method_4_code 4 false (some .int) zcl_57_4 :=
  zA_c (zOk_fl zn_push (zs_bipush (n := 6) (by decide +kernel) rfl)) <|
  zA_c (zOk_fl zn_goto (zs_goto (off := 5) (by decide +kernel) (by decide))) <|
  zA_c (zOk_fl zn_push (zs_bipush (n := 7) (by decide +kernel) rfl)) <|
  zA_c (zs_iret (by decide +kernel) rfl) <|
  zA_c (zOk_fl zn_push (zs_bipush (n := 7) (by decide +kernel) rfl)) <|
  zA_c (zs_iret (by decide +kernel) rfl) <|
  zA_n
def zc_57 : Nat → zmI := zgetC [zcl_57_0, zcl_57_1, zcl_57_2, zcl_57_3, zcl_57_4]
theorem zmf_57 (l : Launch) : zMf l zc_57 57 := ⟨by decide +kernel, false, (fun h => by cases h), fun pc => zgetC_ok (zA2_c (zmc_57_0 l) (zA2_c (zmc_57_1 l) (zA2_c (zmc_57_2 l) (zA2_c (zmc_57_3 l) (zA2_c (zmc_57_4 l) (zA2_n)))))) pc⟩
def zcl_58_0 : List (Nat × zmI) := [(0, zm_iload 1 0), (1, zm_push 3 97), (3, zm_iclt 6 16), (6, zm_iload 7 0), (7, zm_push 9 104), (9, zm_icgt 12 16), (12, zm_push 13 1), (13, zm_goto 17), (16, zm_push 17 0), (17, zm_zret)]
theorem zmc_58_0 (l : Launch) : zAll l "ChessWire$Saying" prog_10_method_2_code 1 false (some .boolean) zcl_58_0 :=
  zA_c (zOk_fl zn_iload (zs_iload_n (q := 0) rfl (by decide +kernel))) <|
  zA_c (zOk_fl zn_push (zs_bipush (n := 97) (by decide +kernel) rfl)) <|
  zA_c (zOk_fl zn_iclt (zs_iclt (off := 13) (by decide +kernel) (by decide))) <|
  zA_c (zOk_fl zn_iload (zs_iload_n (q := 0) rfl (by decide +kernel))) <|
  zA_c (zOk_fl zn_push (zs_bipush (n := 104) (by decide +kernel) rfl)) <|
  zA_c (zOk_fl zn_icgt (zs_icgt (off := 7) (by decide +kernel) (by decide))) <|
  zA_c (zOk_fl zn_push (zs_iconst (n := 1) (by decide +kernel) rfl)) <|
  zA_c (zOk_fl zn_goto (zs_goto (off := 4) (by decide +kernel) (by decide))) <|
  zA_c (zOk_fl zn_push (zs_iconst (n := 0) (by decide +kernel) rfl)) <|
  zA_c (zs_zret (by decide +kernel) rfl) <|
  zA_n
def zc_58 : Nat → zmI := zgetC [zcl_58_0]
theorem zmf_58 (l : Launch) : zMf l zc_58 58 := ⟨by decide +kernel, false, (fun h => by cases h), fun pc => zgetC_ok (zA2_c (zmc_58_0 l) (zA2_n)) pc⟩
def zcl_59_0 : List (Nat × zmI) := [(0, zm_iload 1 0), (1, zm_push 3 49), (3, zm_iclt 6 16), (6, zm_iload 7 0), (7, zm_push 9 56), (9, zm_icgt 12 16), (12, zm_push 13 1), (13, zm_goto 17), (16, zm_push 17 0), (17, zm_zret)]
theorem zmc_59_0 (l : Launch) : zAll l "ChessWire$Saying" prog_10_method_3_code 1 false (some .boolean) zcl_59_0 :=
  zA_c (zOk_fl zn_iload (zs_iload_n (q := 0) rfl (by decide +kernel))) <|
  zA_c (zOk_fl zn_push (zs_bipush (n := 49) (by decide +kernel) rfl)) <|
  zA_c (zOk_fl zn_iclt (zs_iclt (off := 13) (by decide +kernel) (by decide))) <|
  zA_c (zOk_fl zn_iload (zs_iload_n (q := 0) rfl (by decide +kernel))) <|
  zA_c (zOk_fl zn_push (zs_bipush (n := 56) (by decide +kernel) rfl)) <|
  zA_c (zOk_fl zn_icgt (zs_icgt (off := 7) (by decide +kernel) (by decide))) <|
  zA_c (zOk_fl zn_push (zs_iconst (n := 1) (by decide +kernel) rfl)) <|
  zA_c (zOk_fl zn_goto (zs_goto (off := 4) (by decide +kernel) (by decide))) <|
  zA_c (zOk_fl zn_push (zs_iconst (n := 0) (by decide +kernel) rfl)) <|
  zA_c (zs_zret (by decide +kernel) rfl) <|
  zA_n
def zc_59 : Nat → zmI := zgetC [zcl_59_0]
theorem zmf_59 (l : Launch) : zMf l zc_59 59 := ⟨by decide +kernel, false, (fun h => by cases h), fun pc => zgetC_ok (zA2_c (zmc_59_0 l) (zA2_n)) pc⟩
def zcl_60_0 : List (Nat × zmI) := [(0, zm_iload 1 0), (1, zm_push 2 2), (2, zm_iceq 5 21), (5, zm_iload 6 0), (6, zm_push 7 3), (7, zm_iceq 10 21), (10, zm_iload 11 0), (11, zm_push 12 5), (12, zm_iceq 15 21), (15, zm_iload 16 0), (16, zm_push 18 6), (18, zm_icne 21 25), (21, zm_push 22 1), (22, zm_goto 26), (25, zm_push 26 0), (26, zm_zret)]
theorem zmc_60_0 (l : Launch) : zAll l "ChessWire$Saying" prog_10_method_5_code 1 false (some .boolean) zcl_60_0 :=
  zA_c (zOk_fl zn_iload (zs_iload_n (q := 0) rfl (by decide +kernel))) <|
  zA_c (zOk_fl zn_push (zs_iconst (n := 2) (by decide +kernel) rfl)) <|
  zA_c (zOk_fl zn_iceq (zs_iceq (off := 19) (by decide +kernel) (by decide))) <|
  zA_c (zOk_fl zn_iload (zs_iload_n (q := 0) rfl (by decide +kernel))) <|
  zA_c (zOk_fl zn_push (zs_iconst (n := 3) (by decide +kernel) rfl)) <|
  zA_c (zOk_fl zn_iceq (zs_iceq (off := 14) (by decide +kernel) (by decide))) <|
  zA_c (zOk_fl zn_iload (zs_iload_n (q := 0) rfl (by decide +kernel))) <|
  zA_c (zOk_fl zn_push (zs_iconst (n := 5) (by decide +kernel) rfl)) <|
  zA_c (zOk_fl zn_iceq (zs_iceq (off := 9) (by decide +kernel) (by decide))) <|
  zA_c (zOk_fl zn_iload (zs_iload_n (q := 0) rfl (by decide +kernel))) <|
  zA_c (zOk_fl zn_push (zs_bipush (n := 6) (by decide +kernel) rfl)) <|
  zA_c (zOk_fl zn_icne (zs_icne (off := 7) (by decide +kernel) (by decide))) <|
  zA_c (zOk_fl zn_push (zs_iconst (n := 1) (by decide +kernel) rfl)) <|
  zA_c (zOk_fl zn_goto (zs_goto (off := 4) (by decide +kernel) (by decide))) <|
  zA_c (zOk_fl zn_push (zs_iconst (n := 0) (by decide +kernel) rfl)) <|
  zA_c (zs_zret (by decide +kernel) rfl) <|
  zA_n
def zc_60 : Nat → zmI := zgetC [zcl_60_0]
theorem zmf_60 (l : Launch) : zMf l zc_60 60 := ⟨by decide +kernel, false, (fun h => by cases h), fun pc => zgetC_ok (zA2_c (zmc_60_0 l) (zA2_n)) pc⟩
def zcl_61_0 : List (Nat × zmI) := [(0, zm_aload 1 0), (1, zm_call 4 22 1 true 1), (4, zm_ifne 7 9), (7, zm_push 8 (-1)), (8, zm_iret), (9, zm_push 10 0), (10, zm_istore 11 1), (11, zm_push 12 1), (12, zm_istore 13 2), (13, zm_push 14 0), (14, zm_istore 15 3), (15, zm_iload 16 3), (16, zm_aload 17 0), (17, zm_call 20 22 1 true 1), (20, zm_icge 23 80), (23, zm_aload 24 0), (24, zm_iload 25 3), (25, zm_call 28 23 2 true 1), (28, zm_istore 30 4), (30, zm_iload 32 4)]
theorem zmc_61_0 (l : Launch) : zAll l "ChessWire$Game" prog_7_method_2_code 5 false (some .int) zcl_61_0 :=
  zA_c (zOk_fl zn_aload (zs_aload_n (q := 0) rfl (by decide +kernel))) <|
  zA_c (zk_V zq_22 zw_546 rfl (by decide +kernel)) <|
  zA_c (zOk_fl zn_ifne (zs_ifne (off := 5) (by decide +kernel) (by decide))) <|
  zA_c (zOk_fl zn_push (zs_iconst (n := (-1)) (by decide +kernel) rfl)) <|
  zA_c (zs_iret (by decide +kernel) rfl) <|
  zA_c (zOk_fl zn_push (zs_iconst (n := 0) (by decide +kernel) rfl)) <|
  zA_c (zOk_fl zn_istore (zs_istore_n (q := 1) rfl (by decide +kernel))) <|
  zA_c (zOk_fl zn_push (zs_iconst (n := 1) (by decide +kernel) rfl)) <|
  zA_c (zOk_fl zn_istore (zs_istore_n (q := 2) rfl (by decide +kernel))) <|
  zA_c (zOk_fl zn_push (zs_iconst (n := 0) (by decide +kernel) rfl)) <|
  zA_c (zOk_fl zn_istore (zs_istore_n (q := 3) rfl (by decide +kernel))) <|
  zA_c (zOk_fl zn_iload (zs_iload_n (q := 3) rfl (by decide +kernel))) <|
  zA_c (zOk_fl zn_aload (zs_aload_n (q := 0) rfl (by decide +kernel))) <|
  zA_c (zk_V zq_22 zw_546 rfl (by decide +kernel)) <|
  zA_c (zOk_fl zn_icge (zs_icge (off := 60) (by decide +kernel) (by decide))) <|
  zA_c (zOk_fl zn_aload (zs_aload_n (q := 0) rfl (by decide +kernel))) <|
  zA_c (zOk_fl zn_iload (zs_iload_n (q := 3) rfl (by decide +kernel))) <|
  zA_c (zk_V zq_23 zw_547 rfl (by decide +kernel)) <|
  zA_c (zOk_fl zn_istore (zs_istore (by decide +kernel))) <|
  zA_c (zOk_fl zn_iload (zs_iload (by decide +kernel))) <|
  zA_n
def zcl_61_1 : List (Nat × zmI) := [(32, zm_push 34 59), (34, zm_icne 37 59), (37, zm_iload 38 1), (38, zm_call 41 60 1 true 99), (41, zm_ifeq 44 59), (44, zm_push 45 0), (45, zm_istore 46 1), (46, zm_iinc 49 2 1), (49, zm_iload 50 2), (50, zm_push 52 12), (52, zm_icle 55 74), (55, zm_iload 56 3), (56, zm_push 57 1), (57, zm_bin 58 (fun x y => w32 (x + y))), (58, zm_iret), (59, zm_iload 60 1), (60, zm_iload 62 4), (62, zm_call 65 57 2 true 99)]
theorem zmc_61_1 (l : Launch) : zAll l "ChessWire$Game" prog_7_method_2_code 5 false (some .int) zcl_61_1 :=
  zA_c (zOk_fl zn_push (zs_bipush (n := 59) (by decide +kernel) rfl)) <|
  zA_c (zOk_fl zn_icne (zs_icne (off := 25) (by decide +kernel) (by decide))) <|
  zA_c (zOk_fl zn_iload (zs_iload_n (q := 1) rfl (by decide +kernel))) <|
  zA_c (zk_S zq_60 zw_548 (by decide +kernel)) <|
  zA_c (zOk_fl zn_ifeq (zs_ifeq (off := 18) (by decide +kernel) (by decide))) <|
  zA_c (zOk_fl zn_push (zs_iconst (n := 0) (by decide +kernel) rfl)) <|
  zA_c (zOk_fl zn_istore (zs_istore_n (q := 1) rfl (by decide +kernel))) <|
  zA_c (zOk_fl zn_iinc (zs_iinc rfl (by decide +kernel))) <|
  zA_c (zOk_fl zn_iload (zs_iload_n (q := 2) rfl (by decide +kernel))) <|
  zA_c (zOk_fl zn_push (zs_bipush (n := 12) (by decide +kernel) rfl)) <|
  zA_c (zOk_fl zn_icle (zs_icle (off := 22) (by decide +kernel) (by decide))) <|
  zA_c (zOk_fl zn_iload (zs_iload_n (q := 3) rfl (by decide +kernel))) <|
  zA_c (zOk_fl zn_push (zs_iconst (n := 1) (by decide +kernel) rfl)) <|
  zA_c (zOk_fl zn_bin (zs_iadd (by decide +kernel))) <|
  zA_c (zs_iret (by decide +kernel) rfl) <|
  zA_c (zOk_fl zn_iload (zs_iload_n (q := 1) rfl (by decide +kernel))) <|
  zA_c (zOk_fl zn_iload (zs_iload (by decide +kernel))) <|
  zA_c (zk_S zq_57 zw_549 (by decide +kernel)) <|
  zA_n
def zcl_61_2 : List (Nat × zmI) := [(65, zm_istore 66 1), (66, zm_iload 67 1), (67, zm_push 69 7), (69, zm_icne 72 74), (72, zm_iload 73 3), (73, zm_iret), (74, zm_iinc 77 3 1), (77, zm_goto 15), (80, zm_iload 81 1), (81, zm_call 84 60 1 true 99), (84, zm_ifeq 87 91), (87, zm_push 88 (-1)), (88, zm_goto 95), (91, zm_aload 92 0), (92, zm_call 95 22 1 true 1), (95, zm_iret)]
theorem zmc_61_2 (l : Launch) : zAll l "ChessWire$Game" prog_7_method_2_code 5 false (some .int) zcl_61_2 :=
  zA_c (zOk_fl zn_istore (zs_istore_n (q := 1) rfl (by decide +kernel))) <|
  zA_c (zOk_fl zn_iload (zs_iload_n (q := 1) rfl (by decide +kernel))) <|
  zA_c (zOk_fl zn_push (zs_bipush (n := 7) (by decide +kernel) rfl)) <|
  zA_c (zOk_fl zn_icne (zs_icne (off := 5) (by decide +kernel) (by decide))) <|
  zA_c (zOk_fl zn_iload (zs_iload_n (q := 3) rfl (by decide +kernel))) <|
  zA_c (zs_iret (by decide +kernel) rfl) <|
  zA_c (zOk_fl zn_iinc (zs_iinc rfl (by decide +kernel))) <|
  zA_c (zOk_fl zn_goto (zs_goto (off := (-62)) (by decide +kernel) (by decide))) <|
  zA_c (zOk_fl zn_iload (zs_iload_n (q := 1) rfl (by decide +kernel))) <|
  zA_c (zk_S zq_60 zw_548 (by decide +kernel)) <|
  zA_c (zOk_fl zn_ifeq (zs_ifeq (off := 7) (by decide +kernel) (by decide))) <|
  zA_c (zOk_fl zn_push (zs_iconst (n := (-1)) (by decide +kernel) rfl)) <|
  zA_c (zOk_fl zn_goto (zs_goto (off := 7) (by decide +kernel) (by decide))) <|
  zA_c (zOk_fl zn_aload (zs_aload_n (q := 0) rfl (by decide +kernel))) <|
  zA_c (zk_V zq_22 zw_546 rfl (by decide +kernel)) <|
  zA_c (zs_iret (by decide +kernel) rfl) <|
  zA_n
def zc_61 : Nat → zmI := zgetC [zcl_61_0, zcl_61_1, zcl_61_2]
theorem zmf_61 (l : Launch) : zMf l zc_61 61 := ⟨by decide +kernel, false, (fun h => by cases h), fun pc => zgetC_ok (zA2_c (zmc_61_0 l) (zA2_c (zmc_61_1 l) (zA2_c (zmc_61_2 l) (zA2_n)))) pc⟩
def zcl_62_0 : List (Nat × zmI) := [(0, zm_iload 1 1), (1, zm_iflt 4 10), (4, zm_iload 5 1), (5, zm_push 7 64), (7, zm_iclt 10 13), (10, zm_push 12 (-2)), (12, zm_iret), (13, zm_aload 14 0), (14, zm_getR 17 0 1), (17, zm_iload 18 1), (18, zm_call 21 63 2 true 2), (21, zm_iret)]
theorem zmc_62_0 (l : Launch) : zAll l "ChessWire" prog_1_method_5_code 2 false (some .int) zcl_62_0 :=
  zA_c (zOk_fl zn_iload (zs_iload_n (q := 1) rfl (by decide +kernel))) <|
  zA_c (zOk_fl zn_iflt (zs_iflt (off := 9) (by decide +kernel) (by decide))) <|
  zA_c (zOk_fl zn_iload (zs_iload_n (q := 1) rfl (by decide +kernel))) <|
  zA_c (zOk_fl zn_push (zs_bipush (n := 64) (by decide +kernel) rfl)) <|
  zA_c (zOk_fl zn_iclt (zs_iclt (off := 6) (by decide +kernel) (by decide))) <|
  zA_c (zOk_fl zn_push (zs_bipush (n := (-2)) (by decide +kernel) rfl)) <|
  zA_c (zs_iret (by decide +kernel) rfl) <|
  zA_c (zOk_fl zn_aload (zs_aload_n (q := 0) rfl (by decide +kernel))) <|
  zA_c (zOk_fl zn_getR (zs_getR (k := 1) rfl (by decide) (by decide +kernel) rfl (by decide +kernel) zw_304)) <|
  zA_c (zOk_fl zn_iload (zs_iload_n (q := 1) rfl (by decide +kernel))) <|
  zA_c (zk_V zq_63 zw_554 rfl (by decide +kernel)) <|
  zA_c (zs_iret (by decide +kernel) rfl) <|
  zA_n
def zc_62 : Nat → zmI := zgetC [zcl_62_0]
theorem zmf_62 (l : Launch) : zMf l zc_62 62 := ⟨by decide +kernel, false, (fun h => by cases h), fun pc => zgetC_ok (zA2_c (zmc_62_0 l) (zA2_n)) pc⟩
def zcl_63_0 : List (Nat × zmI) := [(0, zm_iload 1 1), (1, zm_iflt 4 22), (4, zm_iload 5 1), (5, zm_push 7 64), (7, zm_icge 10 22), (10, zm_aload 11 0), (11, zm_getR 14 2 0), (14, zm_iload 15 1), (15, zm_ald 16 100), (16, zm_call 19 64 1 true 99), (19, zm_goto 23), (22, zm_push 23 0), (23, zm_iret)]
theorem zmc_63_0 (l : Launch) : zAll l "ChessWire$Board" prog_2_method_10_code 2 false (some .int) zcl_63_0 :=
  zA_c (zOk_fl zn_iload (zs_iload_n (q := 1) rfl (by decide +kernel))) <|
  zA_c (zOk_fl zn_iflt (zs_iflt (off := 21) (by decide +kernel) (by decide))) <|
  zA_c (zOk_fl zn_iload (zs_iload_n (q := 1) rfl (by decide +kernel))) <|
  zA_c (zOk_fl zn_push (zs_bipush (n := 64) (by decide +kernel) rfl)) <|
  zA_c (zOk_fl zn_icge (zs_icge (off := 15) (by decide +kernel) (by decide))) <|
  zA_c (zOk_fl zn_aload (zs_aload_n (q := 0) rfl (by decide +kernel))) <|
  zA_c (zOk_fl zn_getR (zs_getR (k := 0) rfl (by decide) (by decide +kernel) rfl (by decide +kernel) zw_56)) <|
  zA_c (zOk_fl zn_iload (zs_iload_n (q := 1) rfl (by decide +kernel))) <|
  zA_c (zOk_fl zn_ald (zs_iald (by decide +kernel))) <|
  zA_c (zk_S zq_64 zw_558 (by decide +kernel)) <|
  zA_c (zOk_fl zn_goto (zs_goto (off := 4) (by decide +kernel) (by decide))) <|
  zA_c (zOk_fl zn_push (zs_iconst (n := 0) (by decide +kernel) rfl)) <|
  zA_c (zs_iret (by decide +kernel) rfl) <|
  zA_n
def zc_63 : Nat → zmI := zgetC [zcl_63_0]
theorem zmf_63 (l : Launch) : zMf l zc_63 63 := ⟨by decide +kernel, false, (fun h => by cases h), fun pc => zgetC_ok (zA2_c (zmc_63_0 l) (zA2_n)) pc⟩
def zcl_64_0 : List (Nat × zmI) := [(0, zm_iload 1 0), (1, zm_ifle 4 19), (4, zm_iload 5 0), (5, zm_push 7 6), (7, zm_icgt 10 19), (10, zm_pushr 12 (zXB + 10)), (12, zm_iload 13 0), (13, zm_push 14 1), (14, zm_bin 15 (fun x y => w32 (x - y))), (15, zm_call 18 65 2 true 60), (18, zm_iret), (19, zm_iload 20 0), (20, zm_ifge 23 40), (23, zm_iload 24 0), (24, zm_push 26 (-6)), (26, zm_iclt 29 40), (29, zm_pushr 31 (zXB + 11)), (31, zm_push 32 (-1))]
theorem zmc_64_0 (l : Launch) : zAll l "ChessWire$Board" prog_2_method_3_code 1 false (some .int) zcl_64_0 :=
  zA_c (zOk_fl zn_iload (zs_iload_n (q := 0) rfl (by decide +kernel))) <|
  zA_c (zOk_fl zn_ifle (zs_ifle (off := 18) (by decide +kernel) (by decide))) <|
  zA_c (zOk_fl zn_iload (zs_iload_n (q := 0) rfl (by decide +kernel))) <|
  zA_c (zOk_fl zn_push (zs_bipush (n := 6) (by decide +kernel) rfl)) <|
  zA_c (zOk_fl zn_icgt (zs_icgt (off := 12) (by decide +kernel) (by decide))) <|
  zA_c (zOk_fl zn_pushr (zs_text0 rfl (by decide +kernel))) <|
  zA_c (zOk_fl zn_iload (zs_iload_n (q := 0) rfl (by decide +kernel))) <|
  zA_c (zOk_fl zn_push (zs_iconst (n := 1) (by decide +kernel) rfl)) <|
  zA_c (zOk_fl zn_bin (zs_isub (by decide +kernel))) <|
  zA_c (zk_X zq_65 zw_561 rfl (by decide +kernel)) <|
  zA_c (zs_iret (by decide +kernel) rfl) <|
  zA_c (zOk_fl zn_iload (zs_iload_n (q := 0) rfl (by decide +kernel))) <|
  zA_c (zOk_fl zn_ifge (zs_ifge (off := 20) (by decide +kernel) (by decide))) <|
  zA_c (zOk_fl zn_iload (zs_iload_n (q := 0) rfl (by decide +kernel))) <|
  zA_c (zOk_fl zn_push (zs_bipush (n := (-6)) (by decide +kernel) rfl)) <|
  zA_c (zOk_fl zn_iclt (zs_iclt (off := 14) (by decide +kernel) (by decide))) <|
  zA_c (zOk_fl zn_pushr (zs_text1 rfl (by decide +kernel))) <|
  zA_c (zOk_fl zn_push (zs_iconst (n := (-1)) (by decide +kernel) rfl)) <|
  zA_n
def zcl_64_1 : List (Nat × zmI) := [(32, zm_iload 33 0), (33, zm_bin 34 (fun x y => w32 (x - y))), (34, zm_call 37 65 2 true 60), (37, zm_goto 41), (40, zm_push 41 0), (41, zm_iret)]
theorem zmc_64_1 (l : Launch) : zAll l "ChessWire$Board" prog_2_method_3_code 1 false (some .int) zcl_64_1 :=
  zA_c (zOk_fl zn_iload (zs_iload_n (q := 0) rfl (by decide +kernel))) <|
  zA_c (zOk_fl zn_bin (zs_isub (by decide +kernel))) <|
  zA_c (zk_X zq_65 zw_561 rfl (by decide +kernel)) <|
  zA_c (zOk_fl zn_goto (zs_goto (off := 4) (by decide +kernel) (by decide))) <|
  zA_c (zOk_fl zn_push (zs_iconst (n := 0) (by decide +kernel) rfl)) <|
  zA_c (zs_iret (by decide +kernel) rfl) <|
  zA_n
def zc_64 : Nat → zmI := zgetC [zcl_64_0, zcl_64_1]
theorem zmf_64 (l : Launch) : zMf l zc_64 64 := ⟨by decide +kernel, false, (fun h => by cases h), fun pc => zgetC_ok (zA2_c (zmc_64_0 l) (zA2_c (zmc_64_1 l) (zA2_n))) pc⟩
def zcl_65_0 : List (Nat × zmI) := [(0, zm_aload 1 0), (1, zm_call 4 30 1 true 60), (4, zm_ifeq 7 16), (7, zm_aload 8 0), (8, zm_getR 11 60 0), (11, zm_iload 12 1), (12, zm_call 15 66 2 true 99), (15, zm_cret), (16, zm_aload 17 0), (17, zm_getR 20 60 0), (20, zm_iload 21 1), (21, zm_no), (24, zm_cret)]
theorem zmc_65_0 (l : Launch) : zAll l "java/lang/String" prog_19_method_56_code 2 false (some .char) zcl_65_0 :=
  zA_c (zOk_fl zn_aload (zs_aload_n (q := 0) rfl (by decide +kernel))) <|
  zA_c (zk_X zq_30 zw_418 rfl (by decide +kernel)) <|
  zA_c (zOk_fl zn_ifeq (zs_ifeq (off := 12) (by decide +kernel) (by decide))) <|
  zA_c (zOk_fl zn_aload (zs_aload_n (q := 0) rfl (by decide +kernel))) <|
  zA_c (zOk_fl zn_getR (zs_bytes (by decide +kernel) zw_1703)) <|
  zA_c (zOk_fl zn_iload (zs_iload_n (q := 1) rfl (by decide +kernel))) <|
  zA_c (zk_S zq_66 zw_565 (by decide +kernel)) <|
  zA_c (zs_cret (by decide +kernel) rfl) <|
  zA_c (zOk_fl zn_aload (zs_aload_n (q := 0) rfl (by decide +kernel))) <|
  zA_c (zOk_fl zn_getR (zs_bytes (by decide +kernel) zw_1703)) <|
  zA_c (zOk_fl zn_iload (zs_iload_n (q := 1) rfl (by decide +kernel))) <|
  zA_c (zOk_no) <|
  zA_c (zs_cret (by decide +kernel) rfl) <|
  zA_n
def zc_65 : Nat → zmI := zgetC [zcl_65_0]
theorem zmf_65 (l : Launch) : zMf l zc_65 65 := ⟨by decide +kernel, false, (fun h => by cases h), fun pc => zgetC_ok (zA2_c (zmc_65_0 l) (zA2_n)) pc⟩
def zcl_66_0 : List (Nat × zmI) := [(0, zm_iload 1 1), (1, zm_aload 2 0), (2, zm_alen 3), (3, zm_call 6 67 2 false 99), (6, zm_aload 7 0), (7, zm_iload 8 1), (8, zm_ald 9 120), (9, zm_push 12 255), (12, zm_bin 13 z_and), (13, zm_un 14 z_i2c), (14, zm_cret)]
theorem zmc_66_0 (l : Launch) : zAll l "java/lang/StringLatin1" prog_20_method_2_code 2 false (some .char) zcl_66_0 :=
  zA_c (zOk_fl zn_iload (zs_iload_n (q := 1) rfl (by decide +kernel))) <|
  zA_c (zOk_fl zn_aload (zs_aload_n (q := 0) rfl (by decide +kernel))) <|
  zA_c (zOk_fl zn_alen (zs_alen (by decide +kernel))) <|
  zA_c (zk_S zq_67 zw_568 (by decide +kernel)) <|
  zA_c (zOk_fl zn_aload (zs_aload_n (q := 0) rfl (by decide +kernel))) <|
  zA_c (zOk_fl zn_iload (zs_iload_n (q := 1) rfl (by decide +kernel))) <|
  zA_c (zOk_fl zn_ald (zs_bald (by decide +kernel))) <|
  zA_c (zOk_fl zn_push (zs_sipush (n := 255) (by decide +kernel) rfl)) <|
  zA_c (zOk_fl zn_bin (zs_iand (by decide +kernel))) <|
  zA_c (zOk_fl zn_un (zs_i2c (by decide +kernel))) <|
  zA_c (zs_cret (by decide +kernel) rfl) <|
  zA_n
def zc_66 : Nat → zmI := zgetC [zcl_66_0]
theorem zmf_66 (l : Launch) : zMf l zc_66 66 := ⟨by decide +kernel, false, (fun h => by cases h), fun pc => zgetC_ok (zA2_c (zmc_66_0 l) (zA2_n)) pc⟩
def zcl_71_0 : List (Nat × zmI) := [(0, zm_aload 1 0), (1, zm_getR 4 0 1), (4, zm_call 7 72 1 true 2), (7, zm_iret)]
theorem zmc_71_0 (l : Launch) : zAll l "ChessWire" prog_1_method_6_code 1 false (some .int) zcl_71_0 :=
  zA_c (zOk_fl zn_aload (zs_aload_n (q := 0) rfl (by decide +kernel))) <|
  zA_c (zOk_fl zn_getR (zs_getR (k := 1) rfl (by decide) (by decide +kernel) rfl (by decide +kernel) zw_304)) <|
  zA_c (zk_V zq_72 zw_585 rfl (by decide +kernel)) <|
  zA_c (zs_iret (by decide +kernel) rfl) <|
  zA_n
def zc_71 : Nat → zmI := zgetC [zcl_71_0]
theorem zmf_71 (l : Launch) : zMf l zc_71 71 := ⟨by decide +kernel, false, (fun h => by cases h), fun pc => zgetC_ok (zA2_c (zmc_71_0 l) (zA2_n)) pc⟩
def zcl_72_0 : List (Nat × zmI) := [(0, zm_aload 1 0), (1, zm_getI 4 2 1), (4, zm_iret)]
theorem zmc_72_0 (l : Launch) : zAll l "ChessWire$Board" prog_2_method_7_code 1 false (some .int) zcl_72_0 :=
  zA_c (zOk_fl zn_aload (zs_aload_n (q := 0) rfl (by decide +kernel))) <|
  zA_c (zOk_fl zn_getI (zs_getI (k := 1) rfl (by decide) (by decide +kernel) rfl (by decide +kernel) zw_57)) <|
  zA_c (zs_iret (by decide +kernel) rfl) <|
  zA_n
def zc_72 : Nat → zmI := zgetC [zcl_72_0]
theorem zmf_72 (l : Launch) : zMf l zc_72 72 := ⟨by decide +kernel, false, (fun h => by cases h), fun pc => zgetC_ok (zA2_c (zmc_72_0 l) (zA2_n)) pc⟩
def zcl_73_0 : List (Nat × zmI) := [(0, zm_iload 1 1), (1, zm_push 2 (-1)), (2, zm_icge 5 8), (5, zm_push 7 (-2)), (7, zm_iret), (8, zm_aload 9 0), (9, zm_call 12 74 1 false 0), (12, zm_iload 13 1), (13, zm_push 14 (-1)), (14, zm_icne 17 27), (17, zm_aload 18 0), (18, zm_getR 21 0 5), (21, zm_call 24 90 1 true 5), (24, zm_goto 35), (27, zm_aload 28 0), (28, zm_getR 31 0 5), (31, zm_iload 32 1)]
theorem zmc_73_0 (l : Launch) : zAll l "ChessWire" prog_1_method_7_code 2 false (some .int) zcl_73_0 :=
  zA_c (zOk_fl zn_iload (zs_iload_n (q := 1) rfl (by decide +kernel))) <|
  zA_c (zOk_fl zn_push (zs_iconst (n := (-1)) (by decide +kernel) rfl)) <|
  zA_c (zOk_fl zn_icge (zs_icge (off := 6) (by decide +kernel) (by decide))) <|
  zA_c (zOk_fl zn_push (zs_bipush (n := (-2)) (by decide +kernel) rfl)) <|
  zA_c (zs_iret (by decide +kernel) rfl) <|
  zA_c (zOk_fl zn_aload (zs_aload_n (q := 0) rfl (by decide +kernel))) <|
  zA_c (zk_V zq_74 zw_593 rfl (by decide +kernel)) <|
  zA_c (zOk_fl zn_iload (zs_iload_n (q := 1) rfl (by decide +kernel))) <|
  zA_c (zOk_fl zn_push (zs_iconst (n := (-1)) (by decide +kernel) rfl)) <|
  zA_c (zOk_fl zn_icne (zs_icne (off := 13) (by decide +kernel) (by decide))) <|
  zA_c (zOk_fl zn_aload (zs_aload_n (q := 0) rfl (by decide +kernel))) <|
  zA_c (zOk_fl zn_getR (zs_getR (k := 5) rfl (by decide) (by decide +kernel) rfl (by decide +kernel) zw_308)) <|
  zA_c (zk_V zq_90 zw_708 rfl (by decide +kernel)) <|
  zA_c (zOk_fl zn_goto (zs_goto (off := 11) (by decide +kernel) (by decide))) <|
  zA_c (zOk_fl zn_aload (zs_aload_n (q := 0) rfl (by decide +kernel))) <|
  zA_c (zOk_fl zn_getR (zs_getR (k := 5) rfl (by decide) (by decide +kernel) rfl (by decide +kernel) zw_308)) <|
  zA_c (zOk_fl zn_iload (zs_iload_n (q := 1) rfl (by decide +kernel))) <|
  zA_n
def zcl_73_1 : List (Nat × zmI) := [(32, zm_call 35 97 2 true 5), (35, zm_iret)]
theorem zmc_73_1 (l : Launch) : zAll l "ChessWire" prog_1_method_7_code 2 false (some .int) zcl_73_1 :=
  zA_c (zk_V zq_97 zw_709 rfl (by decide +kernel)) <|
  zA_c (zs_iret (by decide +kernel) rfl) <|
  zA_n
def zc_73 : Nat → zmI := zgetC [zcl_73_0, zcl_73_1]
theorem zmf_73 (l : Launch) : zMf l zc_73 73 := ⟨by decide +kernel, false, (fun h => by cases h), fun pc => zgetC_ok (zA2_c (zmc_73_0 l) (zA2_c (zmc_73_1 l) (zA2_n))) pc⟩
def zcl_74_0 : List (Nat × zmI) := [(0, zm_aload 1 0), (1, zm_getI 4 0 16), (4, zm_ifne 7 39), (7, zm_aload 8 0), (8, zm_getR 11 0 1), (11, zm_aload 12 0), (12, zm_getR 15 0 5), (15, zm_aload 16 0), (16, zm_getR 19 0 3), (19, zm_call 22 75 3 false 2), (22, zm_aload 23 0), (23, zm_getR 26 0 6), (26, zm_aload 27 0), (27, zm_getR 30 0 5), (30, zm_push 31 0), (31, zm_call 34 89 3 false 6)]
theorem zmc_74_0 (l : Launch) : zAll l "ChessWire" prog_1_method_44_code 1 false (none) zcl_74_0 :=
  zA_c (zOk_fl zn_aload (zs_aload_n (q := 0) rfl (by decide +kernel))) <|
  zA_c (zOk_fl zn_getI (zs_getI (k := 16) rfl (by decide) (by decide +kernel) rfl (by decide +kernel) zw_319)) <|
  zA_c (zOk_fl zn_ifne (zs_ifne (off := 35) (by decide +kernel) (by decide))) <|
  zA_c (zOk_fl zn_aload (zs_aload_n (q := 0) rfl (by decide +kernel))) <|
  zA_c (zOk_fl zn_getR (zs_getR (k := 1) rfl (by decide) (by decide +kernel) rfl (by decide +kernel) zw_304)) <|
  zA_c (zOk_fl zn_aload (zs_aload_n (q := 0) rfl (by decide +kernel))) <|
  zA_c (zOk_fl zn_getR (zs_getR (k := 5) rfl (by decide) (by decide +kernel) rfl (by decide +kernel) zw_308)) <|
  zA_c (zOk_fl zn_aload (zs_aload_n (q := 0) rfl (by decide +kernel))) <|
  zA_c (zOk_fl zn_getR (zs_getR (k := 3) rfl (by decide) (by decide +kernel) rfl (by decide +kernel) zw_306)) <|
  zA_c (zk_V zq_75 zw_597 rfl (by decide +kernel)) <|
  zA_c (zOk_fl zn_aload (zs_aload_n (q := 0) rfl (by decide +kernel))) <|
  zA_c (zOk_fl zn_getR (zs_getR (k := 6) rfl (by decide) (by decide +kernel) rfl (by decide +kernel) zw_309)) <|
  zA_c (zOk_fl zn_aload (zs_aload_n (q := 0) rfl (by decide +kernel))) <|
  zA_c (zOk_fl zn_getR (zs_getR (k := 5) rfl (by decide) (by decide +kernel) rfl (by decide +kernel) zw_308)) <|
  zA_c (zOk_fl zn_push (zs_iconst (n := 0) (by decide +kernel) rfl)) <|
  zA_c (zk_V zq_89 zw_661 rfl (by decide +kernel)) <|
  zA_n
def zcl_74_1 : List (Nat × zmI) := [(34, zm_aload 35 0), (35, zm_push 36 1), (36, zm_putZ 39 0 16), (39, zm_vret)]
theorem zmc_74_1 (l : Launch) : zAll l "ChessWire" prog_1_method_44_code 1 false (none) zcl_74_1 :=
  zA_c (zOk_fl zn_aload (zs_aload_n (q := 0) rfl (by decide +kernel))) <|
  zA_c (zOk_fl zn_push (zs_iconst (n := 1) (by decide +kernel) rfl)) <|
  zA_c (zOk_sn zn_putZ (zs_putZ (k := 16) rfl (by decide) (by decide +kernel) rfl rfl (by decide +kernel) zw_319)) <|
  zA_c (zs_vret (by decide +kernel) rfl) <|
  zA_n
def zc_74 : Nat → zmI := zgetC [zcl_74_0, zcl_74_1]
theorem zmf_74 (l : Launch) : zMf l zc_74 74 := ⟨by decide +kernel, false, (fun h => by cases h), fun pc => zgetC_ok (zA2_c (zmc_74_0 l) (zA2_c (zmc_74_1 l) (zA2_n))) pc⟩
def zcl_75_0 : List (Nat × zmI) := [(0, zm_aload 1 1), (1, zm_call 4 76 1 false 5), (4, zm_aload 5 0), (5, zm_getI 8 2 1), (8, zm_ifne 11 15), (11, zm_push 12 1), (12, zm_goto 16), (15, zm_push 16 (-1)), (16, zm_istore 17 3), (17, zm_aload 18 0), (18, zm_getI 21 2 1), (21, zm_ifne 24 31), (24, zm_aload 25 0), (25, zm_getI 28 2 2), (28, zm_goto 35), (31, zm_aload 32 0)]
theorem zmc_75_0 (l : Launch) : zAll l "ChessWire$Board" prog_2_method_14_code 14 false (none) zcl_75_0 :=
  zA_c (zOk_fl zn_aload (zs_aload_n (q := 1) rfl (by decide +kernel))) <|
  zA_c (zk_V zq_76 zw_601 rfl (by decide +kernel)) <|
  zA_c (zOk_fl zn_aload (zs_aload_n (q := 0) rfl (by decide +kernel))) <|
  zA_c (zOk_fl zn_getI (zs_getI (k := 1) rfl (by decide) (by decide +kernel) rfl (by decide +kernel) zw_57)) <|
  zA_c (zOk_fl zn_ifne (zs_ifne (off := 7) (by decide +kernel) (by decide))) <|
  zA_c (zOk_fl zn_push (zs_iconst (n := 1) (by decide +kernel) rfl)) <|
  zA_c (zOk_fl zn_goto (zs_goto (off := 4) (by decide +kernel) (by decide))) <|
  zA_c (zOk_fl zn_push (zs_iconst (n := (-1)) (by decide +kernel) rfl)) <|
  zA_c (zOk_fl zn_istore (zs_istore_n (q := 3) rfl (by decide +kernel))) <|
  zA_c (zOk_fl zn_aload (zs_aload_n (q := 0) rfl (by decide +kernel))) <|
  zA_c (zOk_fl zn_getI (zs_getI (k := 1) rfl (by decide) (by decide +kernel) rfl (by decide +kernel) zw_57)) <|
  zA_c (zOk_fl zn_ifne (zs_ifne (off := 10) (by decide +kernel) (by decide))) <|
  zA_c (zOk_fl zn_aload (zs_aload_n (q := 0) rfl (by decide +kernel))) <|
  zA_c (zOk_fl zn_getI (zs_getI (k := 2) rfl (by decide) (by decide +kernel) rfl (by decide +kernel) zw_58)) <|
  zA_c (zOk_fl zn_goto (zs_goto (off := 7) (by decide +kernel) (by decide))) <|
  zA_c (zOk_fl zn_aload (zs_aload_n (q := 0) rfl (by decide +kernel))) <|
  zA_n
def zcl_75_1 : List (Nat × zmI) := [(32, zm_getI 35 2 3), (35, zm_istore 37 4), (37, zm_iload 39 4), (39, zm_push 40 (-1)), (40, zm_iceq 43 52), (43, zm_aload 44 0), (44, zm_iload 46 4), (46, zm_call 49 77 2 true 2), (49, zm_ifne 52 56), (52, zm_push 53 1), (53, zm_goto 57), (56, zm_push 57 0), (57, zm_istore 59 5), (59, zm_push 60 0), (60, zm_istore 62 6), (62, zm_iload 64 6)]
theorem zmc_75_1 (l : Launch) : zAll l "ChessWire$Board" prog_2_method_14_code 14 false (none) zcl_75_1 :=
  zA_c (zOk_fl zn_getI (zs_getI (k := 3) rfl (by decide) (by decide +kernel) rfl (by decide +kernel) zw_59)) <|
  zA_c (zOk_fl zn_istore (zs_istore (by decide +kernel))) <|
  zA_c (zOk_fl zn_iload (zs_iload (by decide +kernel))) <|
  zA_c (zOk_fl zn_push (zs_iconst (n := (-1)) (by decide +kernel) rfl)) <|
  zA_c (zOk_fl zn_iceq (zs_iceq (off := 12) (by decide +kernel) (by decide))) <|
  zA_c (zOk_fl zn_aload (zs_aload_n (q := 0) rfl (by decide +kernel))) <|
  zA_c (zOk_fl zn_iload (zs_iload (by decide +kernel))) <|
  zA_c (zk_V zq_77 zw_605 rfl (by decide +kernel)) <|
  zA_c (zOk_fl zn_ifne (zs_ifne (off := 7) (by decide +kernel) (by decide))) <|
  zA_c (zOk_fl zn_push (zs_iconst (n := 1) (by decide +kernel) rfl)) <|
  zA_c (zOk_fl zn_goto (zs_goto (off := 4) (by decide +kernel) (by decide))) <|
  zA_c (zOk_fl zn_push (zs_iconst (n := 0) (by decide +kernel) rfl)) <|
  zA_c (zOk_fl zn_istore (zs_istore (by decide +kernel))) <|
  zA_c (zOk_fl zn_push (zs_iconst (n := 0) (by decide +kernel) rfl)) <|
  zA_c (zOk_fl zn_istore (zs_istore (by decide +kernel))) <|
  zA_c (zOk_fl zn_iload (zs_iload (by decide +kernel))) <|
  zA_n
def zcl_75_2 : List (Nat × zmI) := [(64, zm_push 66 64), (66, zm_icge 69 229), (69, zm_aload 70 0), (70, zm_getR 73 2 0), (73, zm_iload 75 6), (75, zm_ald 76 100), (76, zm_iload 77 3), (77, zm_bin 78 (fun x y => w32 (x * y))), (78, zm_push 79 1), (79, zm_bin 80 (fun x y => w32 (x - y))), (80, zm_istore 82 7), (82, zm_iload 84 7), (84, zm_ifge 87 90), (87, zm_goto 223), (90, zm_iload 92 4), (92, zm_push 93 (-1)), (93, zm_iceq 96 111)]
theorem zmc_75_2 (l : Launch) : zAll l "ChessWire$Board" prog_2_method_14_code 14 false (none) zcl_75_2 :=
  zA_c (zOk_fl zn_push (zs_bipush (n := 64) (by decide +kernel) rfl)) <|
  zA_c (zOk_fl zn_icge (zs_icge (off := 163) (by decide +kernel) (by decide))) <|
  zA_c (zOk_fl zn_aload (zs_aload_n (q := 0) rfl (by decide +kernel))) <|
  zA_c (zOk_fl zn_getR (zs_getR (k := 0) rfl (by decide) (by decide +kernel) rfl (by decide +kernel) zw_56)) <|
  zA_c (zOk_fl zn_iload (zs_iload (by decide +kernel))) <|
  zA_c (zOk_fl zn_ald (zs_iald (by decide +kernel))) <|
  zA_c (zOk_fl zn_iload (zs_iload_n (q := 3) rfl (by decide +kernel))) <|
  zA_c (zOk_fl zn_bin (zs_imul (by decide +kernel))) <|
  zA_c (zOk_fl zn_push (zs_iconst (n := 1) (by decide +kernel) rfl)) <|
  zA_c (zOk_fl zn_bin (zs_isub (by decide +kernel))) <|
  zA_c (zOk_fl zn_istore (zs_istore (by decide +kernel))) <|
  zA_c (zOk_fl zn_iload (zs_iload (by decide +kernel))) <|
  zA_c (zOk_fl zn_ifge (zs_ifge (off := 6) (by decide +kernel) (by decide))) <|
  zA_c (zOk_fl zn_goto (zs_goto (off := 136) (by decide +kernel) (by decide))) <|
  zA_c (zOk_fl zn_iload (zs_iload (by decide +kernel))) <|
  zA_c (zOk_fl zn_push (zs_iconst (n := (-1)) (by decide +kernel) rfl)) <|
  zA_c (zOk_fl zn_iceq (zs_iceq (off := 18) (by decide +kernel) (by decide))) <|
  zA_n
def zcl_75_3 : List (Nat × zmI) := [(96, zm_iload 98 5), (98, zm_ifeq 101 115), (101, zm_iload 103 6), (103, zm_iload 105 4), (105, zm_call 108 79 2 true 99), (108, zm_ifne 111 115), (111, zm_push 112 1), (112, zm_goto 116), (115, zm_push 116 0), (116, zm_istore 118 8), (118, zm_aload 119 0), (119, zm_iload 121 6), (121, zm_iload 123 7), (123, zm_push 124 1), (124, zm_bin 125 (fun x y => w32 (x + y))), (125, zm_iload 126 3), (126, zm_call 129 80 4 true 2)]
theorem zmc_75_3 (l : Launch) : zAll l "ChessWire$Board" prog_2_method_14_code 14 false (none) zcl_75_3 :=
  zA_c (zOk_fl zn_iload (zs_iload (by decide +kernel))) <|
  zA_c (zOk_fl zn_ifeq (zs_ifeq (off := 17) (by decide +kernel) (by decide))) <|
  zA_c (zOk_fl zn_iload (zs_iload (by decide +kernel))) <|
  zA_c (zOk_fl zn_iload (zs_iload (by decide +kernel))) <|
  zA_c (zk_S zq_79 zw_621 (by decide +kernel)) <|
  zA_c (zOk_fl zn_ifne (zs_ifne (off := 7) (by decide +kernel) (by decide))) <|
  zA_c (zOk_fl zn_push (zs_iconst (n := 1) (by decide +kernel) rfl)) <|
  zA_c (zOk_fl zn_goto (zs_goto (off := 4) (by decide +kernel) (by decide))) <|
  zA_c (zOk_fl zn_push (zs_iconst (n := 0) (by decide +kernel) rfl)) <|
  zA_c (zOk_fl zn_istore (zs_istore (by decide +kernel))) <|
  zA_c (zOk_fl zn_aload (zs_aload_n (q := 0) rfl (by decide +kernel))) <|
  zA_c (zOk_fl zn_iload (zs_iload (by decide +kernel))) <|
  zA_c (zOk_fl zn_iload (zs_iload (by decide +kernel))) <|
  zA_c (zOk_fl zn_push (zs_iconst (n := 1) (by decide +kernel) rfl)) <|
  zA_c (zOk_fl zn_bin (zs_iadd (by decide +kernel))) <|
  zA_c (zOk_fl zn_iload (zs_iload_n (q := 3) rfl (by decide +kernel))) <|
  zA_c (zk_V zq_80 zw_624 rfl (by decide +kernel)) <|
  zA_n
def zcl_75_4 : List (Nat × zmI) := [(129, zm_lstore 131 9), (131, zm_push 132 0), (132, zm_istore 134 11), (134, zm_iload 136 11), (136, zm_push 138 64), (138, zm_icge 141 223), (141, zm_lload 143 9), (143, zm_pushl 144 0), (144, zm_lcmp 145), (145, zm_ifeq 148 223), (148, zm_lload 150 9), (150, zm_lload 152 9), (152, zm_unl 153 (fun x => w64 (-x))), (153, zm_binl 154 z_andl), (154, zm_pushl 155 1), (155, zm_binl 156 (fun x y => w64 (x - y))), (156, zm_call 159 84 1 true 99), (159, zm_istore 161 12)]
theorem zmc_75_4 (l : Launch) : zAll l "ChessWire$Board" prog_2_method_14_code 14 false (none) zcl_75_4 :=
  zA_c (zOk_fl zn_lstore (zs_lstore (by decide +kernel))) <|
  zA_c (zOk_fl zn_push (zs_iconst (n := 0) (by decide +kernel) rfl)) <|
  zA_c (zOk_fl zn_istore (zs_istore (by decide +kernel))) <|
  zA_c (zOk_fl zn_iload (zs_iload (by decide +kernel))) <|
  zA_c (zOk_fl zn_push (zs_bipush (n := 64) (by decide +kernel) rfl)) <|
  zA_c (zOk_fl zn_icge (zs_icge (off := 85) (by decide +kernel) (by decide))) <|
  zA_c (zOk_fl zn_lload (zs_lload (by decide +kernel))) <|
  zA_c (zOk_fl zn_pushl (zs_lconst (n := 0) (by decide +kernel) rfl)) <|
  zA_c (zOk_fl zn_lcmp (zs_lcmp (by decide +kernel))) <|
  zA_c (zOk_fl zn_ifeq (zs_ifeq (off := 78) (by decide +kernel) (by decide))) <|
  zA_c (zOk_fl zn_lload (zs_lload (by decide +kernel))) <|
  zA_c (zOk_fl zn_lload (zs_lload (by decide +kernel))) <|
  zA_c (zOk_fl zn_unl (zs_lneg (by decide +kernel))) <|
  zA_c (zOk_fl zn_binl (zs_land (by decide +kernel))) <|
  zA_c (zOk_fl zn_pushl (zs_lconst (n := 1) (by decide +kernel) rfl)) <|
  zA_c (zOk_fl zn_binl (zs_lsub (by decide +kernel))) <|
  zA_c (zk_S zq_84 zw_640 (by decide +kernel)) <|
  zA_c (zOk_fl zn_istore (zs_istore (by decide +kernel))) <|
  zA_n
def zcl_75_5 : List (Nat × zmI) := [(161, zm_lload 163 9), (163, zm_lload 165 9), (165, zm_pushl 166 1), (166, zm_binl 167 (fun x y => w64 (x - y))), (167, zm_binl 168 z_andl), (168, zm_lstore 170 9), (170, zm_iload 172 6), (172, zm_push 174 64), (174, zm_bin 175 (fun x y => w32 (x * y))), (175, zm_iload 177 12), (177, zm_bin 178 (fun x y => w32 (x + y))), (178, zm_istore 180 13), (180, zm_aload 181 2), (181, zm_iload 183 7), (183, zm_iload 185 13), (185, zm_call 188 85 3 true 4), (188, zm_ifeq 191 217), (191, zm_iload 193 8)]
theorem zmc_75_5 (l : Launch) : zAll l "ChessWire$Board" prog_2_method_14_code 14 false (none) zcl_75_5 :=
  zA_c (zOk_fl zn_lload (zs_lload (by decide +kernel))) <|
  zA_c (zOk_fl zn_lload (zs_lload (by decide +kernel))) <|
  zA_c (zOk_fl zn_pushl (zs_lconst (n := 1) (by decide +kernel) rfl)) <|
  zA_c (zOk_fl zn_binl (zs_lsub (by decide +kernel))) <|
  zA_c (zOk_fl zn_binl (zs_land (by decide +kernel))) <|
  zA_c (zOk_fl zn_lstore (zs_lstore (by decide +kernel))) <|
  zA_c (zOk_fl zn_iload (zs_iload (by decide +kernel))) <|
  zA_c (zOk_fl zn_push (zs_bipush (n := 64) (by decide +kernel) rfl)) <|
  zA_c (zOk_fl zn_bin (zs_imul (by decide +kernel))) <|
  zA_c (zOk_fl zn_iload (zs_iload (by decide +kernel))) <|
  zA_c (zOk_fl zn_bin (zs_iadd (by decide +kernel))) <|
  zA_c (zOk_fl zn_istore (zs_istore (by decide +kernel))) <|
  zA_c (zOk_fl zn_aload (zs_aload_n (q := 2) rfl (by decide +kernel))) <|
  zA_c (zOk_fl zn_iload (zs_iload (by decide +kernel))) <|
  zA_c (zOk_fl zn_iload (zs_iload (by decide +kernel))) <|
  zA_c (zk_V zq_85 zw_646 rfl (by decide +kernel)) <|
  zA_c (zOk_fl zn_ifeq (zs_ifeq (off := 29) (by decide +kernel) (by decide))) <|
  zA_c (zOk_fl zn_iload (zs_iload (by decide +kernel))) <|
  zA_n
def zcl_75_6 : List (Nat × zmI) := [(193, zm_ifne 196 209), (196, zm_aload 197 0), (197, zm_iload 199 6), (199, zm_iload 201 12), (201, zm_iload 203 4), (203, zm_call 206 87 4 true 2), (206, zm_ifeq 209 217), (209, zm_aload 210 1), (210, zm_iload 212 13), (212, zm_iload 214 7), (214, zm_call 217 88 3 false 5), (217, zm_iinc 220 11 1), (220, zm_goto 134), (223, zm_iinc 226 6 1)]
theorem zmc_75_6 (l : Launch) : zAll l "ChessWire$Board" prog_2_method_14_code 14 false (none) zcl_75_6 :=
  zA_c (zOk_fl zn_ifne (zs_ifne (off := 16) (by decide +kernel) (by decide))) <|
  zA_c (zOk_fl zn_aload (zs_aload_n (q := 0) rfl (by decide +kernel))) <|
  zA_c (zOk_fl zn_iload (zs_iload (by decide +kernel))) <|
  zA_c (zOk_fl zn_iload (zs_iload (by decide +kernel))) <|
  zA_c (zOk_fl zn_iload (zs_iload (by decide +kernel))) <|
  zA_c (zk_V zq_87 zw_653 rfl (by decide +kernel)) <|
  zA_c (zOk_fl zn_ifeq (zs_ifeq (off := 11) (by decide +kernel) (by decide))) <|
  zA_c (zOk_fl zn_aload (zs_aload_n (q := 1) rfl (by decide +kernel))) <|
  zA_c (zOk_fl zn_iload (zs_iload (by decide +kernel))) <|
  zA_c (zOk_fl zn_iload (zs_iload (by decide +kernel))) <|
  zA_c (zk_V zq_88 zw_657 rfl (by decide +kernel)) <|
  zA_c (zOk_fl zn_iinc (zs_iinc rfl (by decide +kernel))) <|
  zA_c (zOk_fl zn_goto (zs_goto (off := (-86)) (by decide +kernel) (by decide))) <|
  zA_c (zOk_fl zn_iinc (zs_iinc rfl (by decide +kernel))) <|
  zA_n
def zcl_75_7 : List (Nat × zmI) := [(226, zm_goto 62), (229, zm_vret)]
theorem zmc_75_7 (l : Launch) : zAll l "ChessWire$Board" prog_2_method_14_code 14 false (none) zcl_75_7 :=
  zA_c (zOk_fl zn_goto (zs_goto (off := (-164)) (by decide +kernel) (by decide))) <|
  zA_c (zs_vret (by decide +kernel) rfl) <|
  zA_n
def zc_75 : Nat → zmI := zgetC [zcl_75_0, zcl_75_1, zcl_75_2, zcl_75_3, zcl_75_4, zcl_75_5, zcl_75_6, zcl_75_7]
theorem zmf_75 (l : Launch) : zMf l zc_75 75 := ⟨by decide +kernel, false, (fun h => by cases h), fun pc => zgetC_ok (zA2_c (zmc_75_0 l) (zA2_c (zmc_75_1 l) (zA2_c (zmc_75_2 l) (zA2_c (zmc_75_3 l) (zA2_c (zmc_75_4 l) (zA2_c (zmc_75_5 l) (zA2_c (zmc_75_6 l) (zA2_c (zmc_75_7 l) (zA2_n))))))))) pc⟩
def zcl_76_0 : List (Nat × zmI) := [(0, zm_aload 1 0), (1, zm_push 2 0), (2, zm_putI 5 5 3), (5, zm_vret)]
theorem zmc_76_0 (l : Launch) : zAll l "ChessWire$MoveList" prog_8_method_2_code 1 false (none) zcl_76_0 :=
  zA_c (zOk_fl zn_aload (zs_aload_n (q := 0) rfl (by decide +kernel))) <|
  zA_c (zOk_fl zn_push (zs_iconst (n := 0) (by decide +kernel) rfl)) <|
  zA_c (zOk_sn zn_putI (zs_putI (k := 3) rfl (by decide) (by decide +kernel) rfl rfl (by decide +kernel) zw_111)) <|
  zA_c (zs_vret (by decide +kernel) rfl) <|
  zA_n
def zc_76 : Nat → zmI := zgetC [zcl_76_0]
theorem zmf_76 (l : Launch) : zMf l zc_76 76 := ⟨by decide +kernel, false, (fun h => by cases h), fun pc => zgetC_ok (zA2_c (zmc_76_0 l) (zA2_n)) pc⟩
def zcl_77_0 : List (Nat × zmI) := [(0, zm_aload 1 0), (1, zm_getI 4 2 1), (4, zm_ifne 7 11), (7, zm_push 8 (-1)), (8, zm_goto 12), (11, zm_push 12 1), (12, zm_istore 13 2), (13, zm_iload 14 1), (14, zm_push 16 7), (16, zm_bin 17 z_and), (17, zm_istore 18 3), (18, zm_iload 19 1), (19, zm_push 20 3), (20, zm_bin 21 z_shr), (21, zm_istore 23 4), (23, zm_push 24 0), (24, zm_istore 26 5), (26, zm_iload 28 5), (28, zm_push 30 8), (30, zm_icge 33 120)]
theorem zmc_77_0 (l : Launch) : zAll l "ChessWire$Board" prog_2_method_17_code 8 false (some .boolean) zcl_77_0 :=
  zA_c (zOk_fl zn_aload (zs_aload_n (q := 0) rfl (by decide +kernel))) <|
  zA_c (zOk_fl zn_getI (zs_getI (k := 1) rfl (by decide) (by decide +kernel) rfl (by decide +kernel) zw_57)) <|
  zA_c (zOk_fl zn_ifne (zs_ifne (off := 7) (by decide +kernel) (by decide))) <|
  zA_c (zOk_fl zn_push (zs_iconst (n := (-1)) (by decide +kernel) rfl)) <|
  zA_c (zOk_fl zn_goto (zs_goto (off := 4) (by decide +kernel) (by decide))) <|
  zA_c (zOk_fl zn_push (zs_iconst (n := 1) (by decide +kernel) rfl)) <|
  zA_c (zOk_fl zn_istore (zs_istore_n (q := 2) rfl (by decide +kernel))) <|
  zA_c (zOk_fl zn_iload (zs_iload_n (q := 1) rfl (by decide +kernel))) <|
  zA_c (zOk_fl zn_push (zs_bipush (n := 7) (by decide +kernel) rfl)) <|
  zA_c (zOk_fl zn_bin (zs_iand (by decide +kernel))) <|
  zA_c (zOk_fl zn_istore (zs_istore_n (q := 3) rfl (by decide +kernel))) <|
  zA_c (zOk_fl zn_iload (zs_iload_n (q := 1) rfl (by decide +kernel))) <|
  zA_c (zOk_fl zn_push (zs_iconst (n := 3) (by decide +kernel) rfl)) <|
  zA_c (zOk_fl zn_bin (zs_ishr (by decide +kernel))) <|
  zA_c (zOk_fl zn_istore (zs_istore (by decide +kernel))) <|
  zA_c (zOk_fl zn_push (zs_iconst (n := 0) (by decide +kernel) rfl)) <|
  zA_c (zOk_fl zn_istore (zs_istore (by decide +kernel))) <|
  zA_c (zOk_fl zn_iload (zs_iload (by decide +kernel))) <|
  zA_c (zOk_fl zn_push (zs_bipush (n := 8) (by decide +kernel) rfl)) <|
  zA_c (zOk_fl zn_icge (zs_icge (off := 90) (by decide +kernel) (by decide))) <|
  zA_n
def zcl_77_1 : List (Nat × zmI) := [(33, zm_iload 34 3), (34, zm_pushr 37 (zXB + 0)), (37, zm_iload 39 5), (39, zm_ald 40 100), (40, zm_bin 41 (fun x y => w32 (x + y))), (41, zm_istore 43 6), (43, zm_iload 45 4), (45, zm_pushr 48 (zXB + 1)), (48, zm_iload 50 5), (50, zm_ald 51 100), (51, zm_bin 52 (fun x y => w32 (x + y))), (52, zm_istore 54 7), (54, zm_iload 56 6), (56, zm_iflt 59 99), (59, zm_iload 61 6), (61, zm_push 63 8), (63, zm_icge 66 99)]
theorem zmc_77_1 (l : Launch) : zAll l "ChessWire$Board" prog_2_method_17_code 8 false (some .boolean) zcl_77_1 :=
  zA_c (zOk_fl zn_iload (zs_iload_n (q := 3) rfl (by decide +kernel))) <|
  zA_c (zOk_fl zn_pushr (zs_table (j := 0) (by decide) (by decide +kernel) zw_609)) <|
  zA_c (zOk_fl zn_iload (zs_iload (by decide +kernel))) <|
  zA_c (zOk_fl zn_ald (zs_iald (by decide +kernel))) <|
  zA_c (zOk_fl zn_bin (zs_iadd (by decide +kernel))) <|
  zA_c (zOk_fl zn_istore (zs_istore (by decide +kernel))) <|
  zA_c (zOk_fl zn_iload (zs_iload (by decide +kernel))) <|
  zA_c (zOk_fl zn_pushr (zs_table (j := 1) (by decide) (by decide +kernel) zw_611)) <|
  zA_c (zOk_fl zn_iload (zs_iload (by decide +kernel))) <|
  zA_c (zOk_fl zn_ald (zs_iald (by decide +kernel))) <|
  zA_c (zOk_fl zn_bin (zs_iadd (by decide +kernel))) <|
  zA_c (zOk_fl zn_istore (zs_istore (by decide +kernel))) <|
  zA_c (zOk_fl zn_iload (zs_iload (by decide +kernel))) <|
  zA_c (zOk_fl zn_iflt (zs_iflt (off := 43) (by decide +kernel) (by decide))) <|
  zA_c (zOk_fl zn_iload (zs_iload (by decide +kernel))) <|
  zA_c (zOk_fl zn_push (zs_bipush (n := 8) (by decide +kernel) rfl)) <|
  zA_c (zOk_fl zn_icge (zs_icge (off := 36) (by decide +kernel) (by decide))) <|
  zA_n
def zcl_77_2 : List (Nat × zmI) := [(66, zm_iload 68 7), (68, zm_iflt 71 99), (71, zm_iload 73 7), (73, zm_push 75 8), (75, zm_icge 78 99), (78, zm_aload 79 0), (79, zm_getR 82 2 0), (82, zm_iload 84 7), (84, zm_push 86 8), (86, zm_bin 87 (fun x y => w32 (x * y))), (87, zm_iload 89 6), (89, zm_bin 90 (fun x y => w32 (x + y))), (90, zm_ald 91 100), (91, zm_iload 92 2), (92, zm_push 93 2), (93, zm_bin 94 (fun x y => w32 (x * y))), (94, zm_icne 97 99)]
theorem zmc_77_2 (l : Launch) : zAll l "ChessWire$Board" prog_2_method_17_code 8 false (some .boolean) zcl_77_2 :=
  zA_c (zOk_fl zn_iload (zs_iload (by decide +kernel))) <|
  zA_c (zOk_fl zn_iflt (zs_iflt (off := 31) (by decide +kernel) (by decide))) <|
  zA_c (zOk_fl zn_iload (zs_iload (by decide +kernel))) <|
  zA_c (zOk_fl zn_push (zs_bipush (n := 8) (by decide +kernel) rfl)) <|
  zA_c (zOk_fl zn_icge (zs_icge (off := 24) (by decide +kernel) (by decide))) <|
  zA_c (zOk_fl zn_aload (zs_aload_n (q := 0) rfl (by decide +kernel))) <|
  zA_c (zOk_fl zn_getR (zs_getR (k := 0) rfl (by decide) (by decide +kernel) rfl (by decide +kernel) zw_56)) <|
  zA_c (zOk_fl zn_iload (zs_iload (by decide +kernel))) <|
  zA_c (zOk_fl zn_push (zs_bipush (n := 8) (by decide +kernel) rfl)) <|
  zA_c (zOk_fl zn_bin (zs_imul (by decide +kernel))) <|
  zA_c (zOk_fl zn_iload (zs_iload (by decide +kernel))) <|
  zA_c (zOk_fl zn_bin (zs_iadd (by decide +kernel))) <|
  zA_c (zOk_fl zn_ald (zs_iald (by decide +kernel))) <|
  zA_c (zOk_fl zn_iload (zs_iload_n (q := 2) rfl (by decide +kernel))) <|
  zA_c (zOk_fl zn_push (zs_iconst (n := 2) (by decide +kernel) rfl)) <|
  zA_c (zOk_fl zn_bin (zs_imul (by decide +kernel))) <|
  zA_c (zOk_fl zn_icne (zs_icne (off := 5) (by decide +kernel) (by decide))) <|
  zA_n
def zcl_77_3 : List (Nat × zmI) := [(97, zm_push 98 1), (98, zm_zret), (99, zm_aload 100 0), (100, zm_iload 101 3), (101, zm_iload 103 4), (103, zm_iload 105 5), (105, zm_iload 106 2), (106, zm_call 109 78 5 true 2), (109, zm_ifeq 112 114), (112, zm_push 113 1), (113, zm_zret), (114, zm_iinc 117 5 1), (117, zm_goto 26), (120, zm_push 121 0), (121, zm_zret)]
theorem zmc_77_3 (l : Launch) : zAll l "ChessWire$Board" prog_2_method_17_code 8 false (some .boolean) zcl_77_3 :=
  zA_c (zOk_fl zn_push (zs_iconst (n := 1) (by decide +kernel) rfl)) <|
  zA_c (zs_zret (by decide +kernel) rfl) <|
  zA_c (zOk_fl zn_aload (zs_aload_n (q := 0) rfl (by decide +kernel))) <|
  zA_c (zOk_fl zn_iload (zs_iload_n (q := 3) rfl (by decide +kernel))) <|
  zA_c (zOk_fl zn_iload (zs_iload (by decide +kernel))) <|
  zA_c (zOk_fl zn_iload (zs_iload (by decide +kernel))) <|
  zA_c (zOk_fl zn_iload (zs_iload_n (q := 2) rfl (by decide +kernel))) <|
  zA_c (zk_V zq_78 zw_613 rfl (by decide +kernel)) <|
  zA_c (zOk_fl zn_ifeq (zs_ifeq (off := 5) (by decide +kernel) (by decide))) <|
  zA_c (zOk_fl zn_push (zs_iconst (n := 1) (by decide +kernel) rfl)) <|
  zA_c (zs_zret (by decide +kernel) rfl) <|
  zA_c (zOk_fl zn_iinc (zs_iinc rfl (by decide +kernel))) <|
  zA_c (zOk_fl zn_goto (zs_goto (off := (-91)) (by decide +kernel) (by decide))) <|
  zA_c (zOk_fl zn_push (zs_iconst (n := 0) (by decide +kernel) rfl)) <|
  zA_c (zs_zret (by decide +kernel) rfl) <|
  zA_n
def zc_77 : Nat → zmI := zgetC [zcl_77_0, zcl_77_1, zcl_77_2, zcl_77_3]
theorem zmf_77 (l : Launch) : zMf l zc_77 77 := ⟨by decide +kernel, false, (fun h => by cases h), fun pc => zgetC_ok (zA2_c (zmc_77_0 l) (zA2_c (zmc_77_1 l) (zA2_c (zmc_77_2 l) (zA2_c (zmc_77_3 l) (zA2_n))))) pc⟩
def zcl_78_0 : List (Nat × zmI) := [(0, zm_push 1 1), (1, zm_istore 3 5), (3, zm_iload 5 5), (5, zm_push 7 8), (7, zm_icge 10 169), (10, zm_iload 11 1), (11, zm_iload 13 5), (13, zm_pushr 16 (zXB + 2)), (16, zm_iload 17 3), (17, zm_ald 18 100), (18, zm_bin 19 (fun x y => w32 (x * y))), (19, zm_bin 20 (fun x y => w32 (x + y))), (20, zm_istore 22 6), (22, zm_iload 23 2), (23, zm_iload 25 5), (25, zm_pushr 28 (zXB + 3)), (28, zm_iload 29 3), (29, zm_ald 30 100), (30, zm_bin 31 (fun x y => w32 (x * y))), (31, zm_bin 32 (fun x y => w32 (x + y)))]
theorem zmc_78_0 (l : Launch) : zAll l "ChessWire$Board" prog_2_method_18_code 10 false (some .boolean) zcl_78_0 :=
  zA_c (zOk_fl zn_push (zs_iconst (n := 1) (by decide +kernel) rfl)) <|
  zA_c (zOk_fl zn_istore (zs_istore (by decide +kernel))) <|
  zA_c (zOk_fl zn_iload (zs_iload (by decide +kernel))) <|
  zA_c (zOk_fl zn_push (zs_bipush (n := 8) (by decide +kernel) rfl)) <|
  zA_c (zOk_fl zn_icge (zs_icge (off := 162) (by decide +kernel) (by decide))) <|
  zA_c (zOk_fl zn_iload (zs_iload_n (q := 1) rfl (by decide +kernel))) <|
  zA_c (zOk_fl zn_iload (zs_iload (by decide +kernel))) <|
  zA_c (zOk_fl zn_pushr (zs_table (j := 2) (by decide) (by decide +kernel) zw_617)) <|
  zA_c (zOk_fl zn_iload (zs_iload_n (q := 3) rfl (by decide +kernel))) <|
  zA_c (zOk_fl zn_ald (zs_iald (by decide +kernel))) <|
  zA_c (zOk_fl zn_bin (zs_imul (by decide +kernel))) <|
  zA_c (zOk_fl zn_bin (zs_iadd (by decide +kernel))) <|
  zA_c (zOk_fl zn_istore (zs_istore (by decide +kernel))) <|
  zA_c (zOk_fl zn_iload (zs_iload_n (q := 2) rfl (by decide +kernel))) <|
  zA_c (zOk_fl zn_iload (zs_iload (by decide +kernel))) <|
  zA_c (zOk_fl zn_pushr (zs_table (j := 3) (by decide) (by decide +kernel) zw_619)) <|
  zA_c (zOk_fl zn_iload (zs_iload_n (q := 3) rfl (by decide +kernel))) <|
  zA_c (zOk_fl zn_ald (zs_iald (by decide +kernel))) <|
  zA_c (zOk_fl zn_bin (zs_imul (by decide +kernel))) <|
  zA_c (zOk_fl zn_bin (zs_iadd (by decide +kernel))) <|
  zA_n
def zcl_78_1 : List (Nat × zmI) := [(32, zm_istore 34 7), (34, zm_iload 36 6), (36, zm_iflt 39 58), (39, zm_iload 41 6), (41, zm_push 43 8), (43, zm_icge 46 58), (46, zm_iload 48 7), (48, zm_iflt 51 58), (51, zm_iload 53 7), (53, zm_push 55 8), (55, zm_iclt 58 60), (58, zm_push 59 0), (59, zm_zret), (60, zm_aload 61 0), (61, zm_getR 64 2 0)]
theorem zmc_78_1 (l : Launch) : zAll l "ChessWire$Board" prog_2_method_18_code 10 false (some .boolean) zcl_78_1 :=
  zA_c (zOk_fl zn_istore (zs_istore (by decide +kernel))) <|
  zA_c (zOk_fl zn_iload (zs_iload (by decide +kernel))) <|
  zA_c (zOk_fl zn_iflt (zs_iflt (off := 22) (by decide +kernel) (by decide))) <|
  zA_c (zOk_fl zn_iload (zs_iload (by decide +kernel))) <|
  zA_c (zOk_fl zn_push (zs_bipush (n := 8) (by decide +kernel) rfl)) <|
  zA_c (zOk_fl zn_icge (zs_icge (off := 15) (by decide +kernel) (by decide))) <|
  zA_c (zOk_fl zn_iload (zs_iload (by decide +kernel))) <|
  zA_c (zOk_fl zn_iflt (zs_iflt (off := 10) (by decide +kernel) (by decide))) <|
  zA_c (zOk_fl zn_iload (zs_iload (by decide +kernel))) <|
  zA_c (zOk_fl zn_push (zs_bipush (n := 8) (by decide +kernel) rfl)) <|
  zA_c (zOk_fl zn_iclt (zs_iclt (off := 5) (by decide +kernel) (by decide))) <|
  zA_c (zOk_fl zn_push (zs_iconst (n := 0) (by decide +kernel) rfl)) <|
  zA_c (zs_zret (by decide +kernel) rfl) <|
  zA_c (zOk_fl zn_aload (zs_aload_n (q := 0) rfl (by decide +kernel))) <|
  zA_c (zOk_fl zn_getR (zs_getR (k := 0) rfl (by decide) (by decide +kernel) rfl (by decide +kernel) zw_56)) <|
  zA_n
def zcl_78_2 : List (Nat × zmI) := [(64, zm_iload 66 7), (66, zm_push 68 8), (68, zm_bin 69 (fun x y => w32 (x * y))), (69, zm_iload 71 6), (71, zm_bin 72 (fun x y => w32 (x + y))), (72, zm_ald 73 100), (73, zm_iload 75 4), (75, zm_bin 76 (fun x y => w32 (x * y))), (76, zm_istore 78 8), (78, zm_iload 80 8), (80, zm_ifne 83 86), (83, zm_goto 163), (86, zm_iload 87 3), (87, zm_push 88 1), (88, zm_bin 89 z_and), (89, zm_ifeq 92 96), (92, zm_push 93 1), (93, zm_goto 97)]
theorem zmc_78_2 (l : Launch) : zAll l "ChessWire$Board" prog_2_method_18_code 10 false (some .boolean) zcl_78_2 :=
  zA_c (zOk_fl zn_iload (zs_iload (by decide +kernel))) <|
  zA_c (zOk_fl zn_push (zs_bipush (n := 8) (by decide +kernel) rfl)) <|
  zA_c (zOk_fl zn_bin (zs_imul (by decide +kernel))) <|
  zA_c (zOk_fl zn_iload (zs_iload (by decide +kernel))) <|
  zA_c (zOk_fl zn_bin (zs_iadd (by decide +kernel))) <|
  zA_c (zOk_fl zn_ald (zs_iald (by decide +kernel))) <|
  zA_c (zOk_fl zn_iload (zs_iload (by decide +kernel))) <|
  zA_c (zOk_fl zn_bin (zs_imul (by decide +kernel))) <|
  zA_c (zOk_fl zn_istore (zs_istore (by decide +kernel))) <|
  zA_c (zOk_fl zn_iload (zs_iload (by decide +kernel))) <|
  zA_c (zOk_fl zn_ifne (zs_ifne (off := 6) (by decide +kernel) (by decide))) <|
  zA_c (zOk_fl zn_goto (zs_goto (off := 80) (by decide +kernel) (by decide))) <|
  zA_c (zOk_fl zn_iload (zs_iload_n (q := 3) rfl (by decide +kernel))) <|
  zA_c (zOk_fl zn_push (zs_iconst (n := 1) (by decide +kernel) rfl)) <|
  zA_c (zOk_fl zn_bin (zs_iand (by decide +kernel))) <|
  zA_c (zOk_fl zn_ifeq (zs_ifeq (off := 7) (by decide +kernel) (by decide))) <|
  zA_c (zOk_fl zn_push (zs_iconst (n := 1) (by decide +kernel) rfl)) <|
  zA_c (zOk_fl zn_goto (zs_goto (off := 4) (by decide +kernel) (by decide))) <|
  zA_n
def zcl_78_3 : List (Nat × zmI) := [(96, zm_push 97 0), (97, zm_istore 99 9), (99, zm_iload 101 8), (101, zm_push 102 5), (102, zm_iceq 105 120), (105, zm_iload 107 8), (107, zm_iload 109 9), (109, zm_ifeq 112 116), (112, zm_push 113 3), (113, zm_goto 117), (116, zm_push 117 4), (117, zm_icne 120 122), (120, zm_push 121 1), (121, zm_zret), (122, zm_iload 124 5), (124, zm_push 125 1), (125, zm_icne 128 161)]
theorem zmc_78_3 (l : Launch) : zAll l "ChessWire$Board" prog_2_method_18_code 10 false (some .boolean) zcl_78_3 :=
  zA_c (zOk_fl zn_push (zs_iconst (n := 0) (by decide +kernel) rfl)) <|
  zA_c (zOk_fl zn_istore (zs_istore (by decide +kernel))) <|
  zA_c (zOk_fl zn_iload (zs_iload (by decide +kernel))) <|
  zA_c (zOk_fl zn_push (zs_iconst (n := 5) (by decide +kernel) rfl)) <|
  zA_c (zOk_fl zn_iceq (zs_iceq (off := 18) (by decide +kernel) (by decide))) <|
  zA_c (zOk_fl zn_iload (zs_iload (by decide +kernel))) <|
  zA_c (zOk_fl zn_iload (zs_iload (by decide +kernel))) <|
  zA_c (zOk_fl zn_ifeq (zs_ifeq (off := 7) (by decide +kernel) (by decide))) <|
  zA_c (zOk_fl zn_push (zs_iconst (n := 3) (by decide +kernel) rfl)) <|
  zA_c (zOk_fl zn_goto (zs_goto (off := 4) (by decide +kernel) (by decide))) <|
  zA_c (zOk_fl zn_push (zs_iconst (n := 4) (by decide +kernel) rfl)) <|
  zA_c (zOk_fl zn_icne (zs_icne (off := 5) (by decide +kernel) (by decide))) <|
  zA_c (zOk_fl zn_push (zs_iconst (n := 1) (by decide +kernel) rfl)) <|
  zA_c (zs_zret (by decide +kernel) rfl) <|
  zA_c (zOk_fl zn_iload (zs_iload (by decide +kernel))) <|
  zA_c (zOk_fl zn_push (zs_iconst (n := 1) (by decide +kernel) rfl)) <|
  zA_c (zOk_fl zn_icne (zs_icne (off := 36) (by decide +kernel) (by decide))) <|
  zA_n
def zcl_78_4 : List (Nat × zmI) := [(128, zm_iload 130 8), (130, zm_push 132 6), (132, zm_iceq 135 157), (135, zm_iload 137 8), (137, zm_push 138 1), (138, zm_icne 141 161), (141, zm_iload 143 9), (143, zm_ifeq 146 161), (146, zm_pushr 149 (zXB + 3)), (149, zm_iload 150 3), (150, zm_ald 151 100), (151, zm_iload 153 4), (153, zm_un 154 (fun x => w32 (-x))), (154, zm_icne 157 161), (157, zm_push 158 1), (158, zm_goto 162)]
theorem zmc_78_4 (l : Launch) : zAll l "ChessWire$Board" prog_2_method_18_code 10 false (some .boolean) zcl_78_4 :=
  zA_c (zOk_fl zn_iload (zs_iload (by decide +kernel))) <|
  zA_c (zOk_fl zn_push (zs_bipush (n := 6) (by decide +kernel) rfl)) <|
  zA_c (zOk_fl zn_iceq (zs_iceq (off := 25) (by decide +kernel) (by decide))) <|
  zA_c (zOk_fl zn_iload (zs_iload (by decide +kernel))) <|
  zA_c (zOk_fl zn_push (zs_iconst (n := 1) (by decide +kernel) rfl)) <|
  zA_c (zOk_fl zn_icne (zs_icne (off := 23) (by decide +kernel) (by decide))) <|
  zA_c (zOk_fl zn_iload (zs_iload (by decide +kernel))) <|
  zA_c (zOk_fl zn_ifeq (zs_ifeq (off := 18) (by decide +kernel) (by decide))) <|
  zA_c (zOk_fl zn_pushr (zs_table (j := 3) (by decide) (by decide +kernel) zw_619)) <|
  zA_c (zOk_fl zn_iload (zs_iload_n (q := 3) rfl (by decide +kernel))) <|
  zA_c (zOk_fl zn_ald (zs_iald (by decide +kernel))) <|
  zA_c (zOk_fl zn_iload (zs_iload (by decide +kernel))) <|
  zA_c (zOk_fl zn_un (zs_ineg (by decide +kernel))) <|
  zA_c (zOk_fl zn_icne (zs_icne (off := 7) (by decide +kernel) (by decide))) <|
  zA_c (zOk_fl zn_push (zs_iconst (n := 1) (by decide +kernel) rfl)) <|
  zA_c (zOk_fl zn_goto (zs_goto (off := 4) (by decide +kernel) (by decide))) <|
  zA_n
def zcl_78_5 : List (Nat × zmI) := [(161, zm_push 162 0), (162, zm_zret), (163, zm_iinc 166 5 1), (166, zm_goto 3), (169, zm_push 170 0), (170, zm_zret)]
theorem zmc_78_5 (l : Launch) : zAll l "ChessWire$Board" prog_2_method_18_code 10 false (some .boolean) zcl_78_5 :=
  zA_c (zOk_fl zn_push (zs_iconst (n := 0) (by decide +kernel) rfl)) <|
  zA_c (zs_zret (by decide +kernel) rfl) <|
  zA_c (zOk_fl zn_iinc (zs_iinc rfl (by decide +kernel))) <|
  zA_c (zOk_fl zn_goto (zs_goto (off := (-163)) (by decide +kernel) (by decide))) <|
  zA_c (zOk_fl zn_push (zs_iconst (n := 0) (by decide +kernel) rfl)) <|
  zA_c (zs_zret (by decide +kernel) rfl) <|
  zA_n
def zc_78 : Nat → zmI := zgetC [zcl_78_0, zcl_78_1, zcl_78_2, zcl_78_3, zcl_78_4, zcl_78_5]
theorem zmf_78 (l : Launch) : zMf l zc_78 78 := ⟨by decide +kernel, false, (fun h => by cases h), fun pc => zgetC_ok (zA2_c (zmc_78_0 l) (zA2_c (zmc_78_1 l) (zA2_c (zmc_78_2 l) (zA2_c (zmc_78_3 l) (zA2_c (zmc_78_4 l) (zA2_c (zmc_78_5 l) (zA2_n))))))) pc⟩
def zcl_79_0 : List (Nat × zmI) := [(0, zm_iload 1 0), (1, zm_push 3 7), (3, zm_bin 4 z_and), (4, zm_iload 5 1), (5, zm_push 7 7), (7, zm_bin 8 z_and), (8, zm_bin 9 (fun x y => w32 (x - y))), (9, zm_istore 10 2), (10, zm_iload 11 0), (11, zm_push 12 3), (12, zm_bin 13 z_shr), (13, zm_iload 14 1), (14, zm_push 15 3), (15, zm_bin 16 z_shr), (16, zm_bin 17 (fun x y => w32 (x - y))), (17, zm_istore 18 3), (18, zm_iload 19 2), (19, zm_ifeq 22 37), (22, zm_iload 23 3), (23, zm_ifeq 26 37), (26, zm_iload 27 2), (27, zm_iload 28 3), (28, zm_iceq 31 37), (31, zm_iload 32 2)]
theorem zmc_79_0 (l : Launch) : zAll l "ChessWire$Board" prog_2_method_15_code 4 false (some .boolean) zcl_79_0 :=
  zA_c (zOk_fl zn_iload (zs_iload_n (q := 0) rfl (by decide +kernel))) <|
  zA_c (zOk_fl zn_push (zs_bipush (n := 7) (by decide +kernel) rfl)) <|
  zA_c (zOk_fl zn_bin (zs_iand (by decide +kernel))) <|
  zA_c (zOk_fl zn_iload (zs_iload_n (q := 1) rfl (by decide +kernel))) <|
  zA_c (zOk_fl zn_push (zs_bipush (n := 7) (by decide +kernel) rfl)) <|
  zA_c (zOk_fl zn_bin (zs_iand (by decide +kernel))) <|
  zA_c (zOk_fl zn_bin (zs_isub (by decide +kernel))) <|
  zA_c (zOk_fl zn_istore (zs_istore_n (q := 2) rfl (by decide +kernel))) <|
  zA_c (zOk_fl zn_iload (zs_iload_n (q := 0) rfl (by decide +kernel))) <|
  zA_c (zOk_fl zn_push (zs_iconst (n := 3) (by decide +kernel) rfl)) <|
  zA_c (zOk_fl zn_bin (zs_ishr (by decide +kernel))) <|
  zA_c (zOk_fl zn_iload (zs_iload_n (q := 1) rfl (by decide +kernel))) <|
  zA_c (zOk_fl zn_push (zs_iconst (n := 3) (by decide +kernel) rfl)) <|
  zA_c (zOk_fl zn_bin (zs_ishr (by decide +kernel))) <|
  zA_c (zOk_fl zn_bin (zs_isub (by decide +kernel))) <|
  zA_c (zOk_fl zn_istore (zs_istore_n (q := 3) rfl (by decide +kernel))) <|
  zA_c (zOk_fl zn_iload (zs_iload_n (q := 2) rfl (by decide +kernel))) <|
  zA_c (zOk_fl zn_ifeq (zs_ifeq (off := 18) (by decide +kernel) (by decide))) <|
  zA_c (zOk_fl zn_iload (zs_iload_n (q := 3) rfl (by decide +kernel))) <|
  zA_c (zOk_fl zn_ifeq (zs_ifeq (off := 14) (by decide +kernel) (by decide))) <|
  zA_c (zOk_fl zn_iload (zs_iload_n (q := 2) rfl (by decide +kernel))) <|
  zA_c (zOk_fl zn_iload (zs_iload_n (q := 3) rfl (by decide +kernel))) <|
  zA_c (zOk_fl zn_iceq (zs_iceq (off := 9) (by decide +kernel) (by decide))) <|
  zA_c (zOk_fl zn_iload (zs_iload_n (q := 2) rfl (by decide +kernel))) <|
  zA_n
def zcl_79_1 : List (Nat × zmI) := [(32, zm_iload 33 3), (33, zm_un 34 (fun x => w32 (-x))), (34, zm_icne 37 41), (37, zm_push 38 1), (38, zm_goto 42), (41, zm_push 42 0), (42, zm_zret)]
theorem zmc_79_1 (l : Launch) : zAll l "ChessWire$Board" prog_2_method_15_code 4 false (some .boolean) zcl_79_1 :=
  zA_c (zOk_fl zn_iload (zs_iload_n (q := 3) rfl (by decide +kernel))) <|
  zA_c (zOk_fl zn_un (zs_ineg (by decide +kernel))) <|
  zA_c (zOk_fl zn_icne (zs_icne (off := 7) (by decide +kernel) (by decide))) <|
  zA_c (zOk_fl zn_push (zs_iconst (n := 1) (by decide +kernel) rfl)) <|
  zA_c (zOk_fl zn_goto (zs_goto (off := 4) (by decide +kernel) (by decide))) <|
  zA_c (zOk_fl zn_push (zs_iconst (n := 0) (by decide +kernel) rfl)) <|
  zA_c (zs_zret (by decide +kernel) rfl) <|
  zA_n
def zc_79 : Nat → zmI := zgetC [zcl_79_0, zcl_79_1]
theorem zmf_79 (l : Launch) : zMf l zc_79 79 := ⟨by decide +kernel, false, (fun h => by cases h), fun pc => zgetC_ok (zA2_c (zmc_79_0 l) (zA2_c (zmc_79_1 l) (zA2_n))) pc⟩
def zcl_80_0 : List (Nat × zmI) := [(0, zm_iload 1 2), (1, zm_tsw 93 1 6 [40, 47, 54, 64, 74, 84])]
theorem zmc_80_0 (l : Launch) : zAll l "ChessWire$Board" prog_2_method_19_code 4 false (some .long) zcl_80_0 :=
  zA_c (zOk_fl zn_iload (zs_iload_n (q := 2) rfl (by decide +kernel))) <|
  zA_c (zOk_fl zn_tsw (zs_tsw (d0 := 92) (offs := #[39, 46, 53, 63, 73, 83]) (len := 39) (by decide +kernel) (by decide) (by decide) (by decide))) <|
  zA_n
def zcl_80_1 : List (Nat × zmI) := [(40, zm_aload 41 0), (41, zm_iload 42 1), (42, zm_iload 43 3), (43, zm_call 46 81 3 true 2), (46, zm_lret), (47, zm_aload 48 0), (48, zm_iload 49 1), (49, zm_iload 50 3), (50, zm_call 53 82 3 true 2), (53, zm_lret), (54, zm_aload 55 0), (55, zm_iload 56 1), (56, zm_iload 57 3), (57, zm_push 58 2), (58, zm_push 60 7), (60, zm_call 63 83 5 true 2), (63, zm_lret)]
theorem zmc_80_1 (l : Launch) : zAll l "ChessWire$Board" prog_2_method_19_code 4 false (some .long) zcl_80_1 :=
  zA_c (zOk_fl zn_aload (zs_aload_n (q := 0) rfl (by decide +kernel))) <|
  zA_c (zOk_fl zn_iload (zs_iload_n (q := 1) rfl (by decide +kernel))) <|
  zA_c (zOk_fl zn_iload (zs_iload_n (q := 3) rfl (by decide +kernel))) <|
  zA_c (zk_V zq_81 zw_628 rfl (by decide +kernel)) <|
  zA_c (zs_lret (by decide +kernel) rfl) <|
  zA_c (zOk_fl zn_aload (zs_aload_n (q := 0) rfl (by decide +kernel))) <|
  zA_c (zOk_fl zn_iload (zs_iload_n (q := 1) rfl (by decide +kernel))) <|
  zA_c (zOk_fl zn_iload (zs_iload_n (q := 3) rfl (by decide +kernel))) <|
  zA_c (zk_V zq_82 zw_632 rfl (by decide +kernel)) <|
  zA_c (zs_lret (by decide +kernel) rfl) <|
  zA_c (zOk_fl zn_aload (zs_aload_n (q := 0) rfl (by decide +kernel))) <|
  zA_c (zOk_fl zn_iload (zs_iload_n (q := 1) rfl (by decide +kernel))) <|
  zA_c (zOk_fl zn_iload (zs_iload_n (q := 3) rfl (by decide +kernel))) <|
  zA_c (zOk_fl zn_push (zs_iconst (n := 2) (by decide +kernel) rfl)) <|
  zA_c (zOk_fl zn_push (zs_bipush (n := 7) (by decide +kernel) rfl)) <|
  zA_c (zk_V zq_83 zw_636 rfl (by decide +kernel)) <|
  zA_c (zs_lret (by decide +kernel) rfl) <|
  zA_n
def zcl_80_2 : List (Nat × zmI) := [(64, zm_aload 65 0), (65, zm_iload 66 1), (66, zm_iload 67 3), (67, zm_push 68 1), (68, zm_push 70 7), (70, zm_call 73 83 5 true 2), (73, zm_lret), (74, zm_aload 75 0), (75, zm_iload 76 1), (76, zm_iload 77 3), (77, zm_push 78 3), (78, zm_push 80 7), (80, zm_call 83 83 5 true 2), (83, zm_lret), (84, zm_aload 85 0), (85, zm_iload 86 1), (86, zm_iload 87 3), (87, zm_push 88 3), (88, zm_push 89 1), (89, zm_call 92 83 5 true 2), (92, zm_lret), (93, zm_pushl 94 0), (94, zm_lret)]
theorem zmc_80_2 (l : Launch) : zAll l "ChessWire$Board" prog_2_method_19_code 4 false (some .long) zcl_80_2 :=
  zA_c (zOk_fl zn_aload (zs_aload_n (q := 0) rfl (by decide +kernel))) <|
  zA_c (zOk_fl zn_iload (zs_iload_n (q := 1) rfl (by decide +kernel))) <|
  zA_c (zOk_fl zn_iload (zs_iload_n (q := 3) rfl (by decide +kernel))) <|
  zA_c (zOk_fl zn_push (zs_iconst (n := 1) (by decide +kernel) rfl)) <|
  zA_c (zOk_fl zn_push (zs_bipush (n := 7) (by decide +kernel) rfl)) <|
  zA_c (zk_V zq_83 zw_636 rfl (by decide +kernel)) <|
  zA_c (zs_lret (by decide +kernel) rfl) <|
  zA_c (zOk_fl zn_aload (zs_aload_n (q := 0) rfl (by decide +kernel))) <|
  zA_c (zOk_fl zn_iload (zs_iload_n (q := 1) rfl (by decide +kernel))) <|
  zA_c (zOk_fl zn_iload (zs_iload_n (q := 3) rfl (by decide +kernel))) <|
  zA_c (zOk_fl zn_push (zs_iconst (n := 3) (by decide +kernel) rfl)) <|
  zA_c (zOk_fl zn_push (zs_bipush (n := 7) (by decide +kernel) rfl)) <|
  zA_c (zk_V zq_83 zw_636 rfl (by decide +kernel)) <|
  zA_c (zs_lret (by decide +kernel) rfl) <|
  zA_c (zOk_fl zn_aload (zs_aload_n (q := 0) rfl (by decide +kernel))) <|
  zA_c (zOk_fl zn_iload (zs_iload_n (q := 1) rfl (by decide +kernel))) <|
  zA_c (zOk_fl zn_iload (zs_iload_n (q := 3) rfl (by decide +kernel))) <|
  zA_c (zOk_fl zn_push (zs_iconst (n := 3) (by decide +kernel) rfl)) <|
  zA_c (zOk_fl zn_push (zs_iconst (n := 1) (by decide +kernel) rfl)) <|
  zA_c (zk_V zq_83 zw_636 rfl (by decide +kernel)) <|
  zA_c (zs_lret (by decide +kernel) rfl) <|
  zA_c (zOk_fl zn_pushl (zs_lconst (n := 0) (by decide +kernel) rfl)) <|
  zA_c (zs_lret (by decide +kernel) rfl) <|
  zA_n
def zc_80 : Nat → zmI := zgetC [zcl_80_0, zcl_80_1, zcl_80_2]
theorem zmf_80 (l : Launch) : zMf l zc_80 80 := ⟨by decide +kernel, false, (fun h => by cases h), fun pc => zgetC_ok (zA2_c (zmc_80_0 l) (zA2_c (zmc_80_1 l) (zA2_c (zmc_80_2 l) (zA2_n)))) pc⟩
def zcl_81_0 : List (Nat × zmI) := [(0, zm_iload 1 1), (1, zm_push 3 7), (3, zm_bin 4 z_and), (4, zm_istore 5 3), (5, zm_iload 6 1), (6, zm_push 7 3), (7, zm_bin 8 z_shr), (8, zm_iload 9 2), (9, zm_bin 10 (fun x y => w32 (x + y))), (10, zm_istore 12 4), (12, zm_iload 14 4), (14, zm_iflt 17 24), (17, zm_iload 19 4), (19, zm_push 21 8), (21, zm_iclt 24 26), (24, zm_pushl 25 0), (25, zm_lret), (26, zm_pushl 27 0), (27, zm_lstore 29 5), (29, zm_iload 31 4), (31, zm_push 33 8)]
theorem zmc_81_0 (l : Launch) : zAll l "ChessWire$Board" prog_2_method_20_code 9 false (some .long) zcl_81_0 :=
  zA_c (zOk_fl zn_iload (zs_iload_n (q := 1) rfl (by decide +kernel))) <|
  zA_c (zOk_fl zn_push (zs_bipush (n := 7) (by decide +kernel) rfl)) <|
  zA_c (zOk_fl zn_bin (zs_iand (by decide +kernel))) <|
  zA_c (zOk_fl zn_istore (zs_istore_n (q := 3) rfl (by decide +kernel))) <|
  zA_c (zOk_fl zn_iload (zs_iload_n (q := 1) rfl (by decide +kernel))) <|
  zA_c (zOk_fl zn_push (zs_iconst (n := 3) (by decide +kernel) rfl)) <|
  zA_c (zOk_fl zn_bin (zs_ishr (by decide +kernel))) <|
  zA_c (zOk_fl zn_iload (zs_iload_n (q := 2) rfl (by decide +kernel))) <|
  zA_c (zOk_fl zn_bin (zs_iadd (by decide +kernel))) <|
  zA_c (zOk_fl zn_istore (zs_istore (by decide +kernel))) <|
  zA_c (zOk_fl zn_iload (zs_iload (by decide +kernel))) <|
  zA_c (zOk_fl zn_iflt (zs_iflt (off := 10) (by decide +kernel) (by decide))) <|
  zA_c (zOk_fl zn_iload (zs_iload (by decide +kernel))) <|
  zA_c (zOk_fl zn_push (zs_bipush (n := 8) (by decide +kernel) rfl)) <|
  zA_c (zOk_fl zn_iclt (zs_iclt (off := 5) (by decide +kernel) (by decide))) <|
  zA_c (zOk_fl zn_pushl (zs_lconst (n := 0) (by decide +kernel) rfl)) <|
  zA_c (zs_lret (by decide +kernel) rfl) <|
  zA_c (zOk_fl zn_pushl (zs_lconst (n := 0) (by decide +kernel) rfl)) <|
  zA_c (zOk_fl zn_lstore (zs_lstore (by decide +kernel))) <|
  zA_c (zOk_fl zn_iload (zs_iload (by decide +kernel))) <|
  zA_c (zOk_fl zn_push (zs_bipush (n := 8) (by decide +kernel) rfl)) <|
  zA_n
def zcl_81_1 : List (Nat × zmI) := [(33, zm_bin 34 (fun x y => w32 (x * y))), (34, zm_iload 35 3), (35, zm_bin 36 (fun x y => w32 (x + y))), (36, zm_istore 38 7), (38, zm_aload 39 0), (39, zm_getR 42 2 0), (42, zm_iload 44 7), (44, zm_ald 45 100), (45, zm_ifne 48 96), (48, zm_pushl 49 1), (49, zm_iload 51 7), (51, zm_shl 52 z_shll), (52, zm_lstore 54 5), (54, zm_iload 56 7), (56, zm_iload 57 2), (57, zm_push 59 8), (59, zm_bin 60 (fun x y => w32 (x * y))), (60, zm_bin 61 (fun x y => w32 (x + y))), (61, zm_istore 63 8), (63, zm_iload 65 4)]
theorem zmc_81_1 (l : Launch) : zAll l "ChessWire$Board" prog_2_method_20_code 9 false (some .long) zcl_81_1 :=
  zA_c (zOk_fl zn_bin (zs_imul (by decide +kernel))) <|
  zA_c (zOk_fl zn_iload (zs_iload_n (q := 3) rfl (by decide +kernel))) <|
  zA_c (zOk_fl zn_bin (zs_iadd (by decide +kernel))) <|
  zA_c (zOk_fl zn_istore (zs_istore (by decide +kernel))) <|
  zA_c (zOk_fl zn_aload (zs_aload_n (q := 0) rfl (by decide +kernel))) <|
  zA_c (zOk_fl zn_getR (zs_getR (k := 0) rfl (by decide) (by decide +kernel) rfl (by decide +kernel) zw_56)) <|
  zA_c (zOk_fl zn_iload (zs_iload (by decide +kernel))) <|
  zA_c (zOk_fl zn_ald (zs_iald (by decide +kernel))) <|
  zA_c (zOk_fl zn_ifne (zs_ifne (off := 51) (by decide +kernel) (by decide))) <|
  zA_c (zOk_fl zn_pushl (zs_lconst (n := 1) (by decide +kernel) rfl)) <|
  zA_c (zOk_fl zn_iload (zs_iload (by decide +kernel))) <|
  zA_c (zOk_fl zn_shl (zs_lshl (by decide +kernel))) <|
  zA_c (zOk_fl zn_lstore (zs_lstore (by decide +kernel))) <|
  zA_c (zOk_fl zn_iload (zs_iload (by decide +kernel))) <|
  zA_c (zOk_fl zn_iload (zs_iload_n (q := 2) rfl (by decide +kernel))) <|
  zA_c (zOk_fl zn_push (zs_bipush (n := 8) (by decide +kernel) rfl)) <|
  zA_c (zOk_fl zn_bin (zs_imul (by decide +kernel))) <|
  zA_c (zOk_fl zn_bin (zs_iadd (by decide +kernel))) <|
  zA_c (zOk_fl zn_istore (zs_istore (by decide +kernel))) <|
  zA_c (zOk_fl zn_iload (zs_iload (by decide +kernel))) <|
  zA_n
def zcl_81_2 : List (Nat × zmI) := [(65, zm_iload 66 2), (66, zm_ifle 69 73), (69, zm_push 70 2), (70, zm_goto 74), (73, zm_push 74 5), (74, zm_icne 77 96), (77, zm_aload 78 0), (78, zm_getR 81 2 0), (81, zm_iload 83 8), (83, zm_ald 84 100), (84, zm_ifne 87 96), (87, zm_lload 89 5), (89, zm_pushl 90 1), (90, zm_iload 92 8), (92, zm_shl 93 z_shll), (93, zm_binl 94 z_orl), (94, zm_lstore 96 5)]
theorem zmc_81_2 (l : Launch) : zAll l "ChessWire$Board" prog_2_method_20_code 9 false (some .long) zcl_81_2 :=
  zA_c (zOk_fl zn_iload (zs_iload_n (q := 2) rfl (by decide +kernel))) <|
  zA_c (zOk_fl zn_ifle (zs_ifle (off := 7) (by decide +kernel) (by decide))) <|
  zA_c (zOk_fl zn_push (zs_iconst (n := 2) (by decide +kernel) rfl)) <|
  zA_c (zOk_fl zn_goto (zs_goto (off := 4) (by decide +kernel) (by decide))) <|
  zA_c (zOk_fl zn_push (zs_iconst (n := 5) (by decide +kernel) rfl)) <|
  zA_c (zOk_fl zn_icne (zs_icne (off := 22) (by decide +kernel) (by decide))) <|
  zA_c (zOk_fl zn_aload (zs_aload_n (q := 0) rfl (by decide +kernel))) <|
  zA_c (zOk_fl zn_getR (zs_getR (k := 0) rfl (by decide) (by decide +kernel) rfl (by decide +kernel) zw_56)) <|
  zA_c (zOk_fl zn_iload (zs_iload (by decide +kernel))) <|
  zA_c (zOk_fl zn_ald (zs_iald (by decide +kernel))) <|
  zA_c (zOk_fl zn_ifne (zs_ifne (off := 12) (by decide +kernel) (by decide))) <|
  zA_c (zOk_fl zn_lload (zs_lload (by decide +kernel))) <|
  zA_c (zOk_fl zn_pushl (zs_lconst (n := 1) (by decide +kernel) rfl)) <|
  zA_c (zOk_fl zn_iload (zs_iload (by decide +kernel))) <|
  zA_c (zOk_fl zn_shl (zs_lshl (by decide +kernel))) <|
  zA_c (zOk_fl zn_binl (zs_lor (by decide +kernel))) <|
  zA_c (zOk_fl zn_lstore (zs_lstore (by decide +kernel))) <|
  zA_n
def zcl_81_3 : List (Nat × zmI) := [(96, zm_iload 97 3), (97, zm_ifle 100 125), (100, zm_aload 101 0), (101, zm_getR 104 2 0), (104, zm_iload 106 7), (106, zm_push 107 1), (107, zm_bin 108 (fun x y => w32 (x - y))), (108, zm_ald 109 100), (109, zm_iload 110 2), (110, zm_bin 111 (fun x y => w32 (x * y))), (111, zm_ifge 114 125), (114, zm_lload 116 5), (116, zm_pushl 117 1), (117, zm_iload 119 7), (119, zm_push 120 1), (120, zm_bin 121 (fun x y => w32 (x - y))), (121, zm_shl 122 z_shll), (122, zm_binl 123 z_orl), (123, zm_lstore 125 5), (125, zm_iload 126 3), (126, zm_push 128 7)]
theorem zmc_81_3 (l : Launch) : zAll l "ChessWire$Board" prog_2_method_20_code 9 false (some .long) zcl_81_3 :=
  zA_c (zOk_fl zn_iload (zs_iload_n (q := 3) rfl (by decide +kernel))) <|
  zA_c (zOk_fl zn_ifle (zs_ifle (off := 28) (by decide +kernel) (by decide))) <|
  zA_c (zOk_fl zn_aload (zs_aload_n (q := 0) rfl (by decide +kernel))) <|
  zA_c (zOk_fl zn_getR (zs_getR (k := 0) rfl (by decide) (by decide +kernel) rfl (by decide +kernel) zw_56)) <|
  zA_c (zOk_fl zn_iload (zs_iload (by decide +kernel))) <|
  zA_c (zOk_fl zn_push (zs_iconst (n := 1) (by decide +kernel) rfl)) <|
  zA_c (zOk_fl zn_bin (zs_isub (by decide +kernel))) <|
  zA_c (zOk_fl zn_ald (zs_iald (by decide +kernel))) <|
  zA_c (zOk_fl zn_iload (zs_iload_n (q := 2) rfl (by decide +kernel))) <|
  zA_c (zOk_fl zn_bin (zs_imul (by decide +kernel))) <|
  zA_c (zOk_fl zn_ifge (zs_ifge (off := 14) (by decide +kernel) (by decide))) <|
  zA_c (zOk_fl zn_lload (zs_lload (by decide +kernel))) <|
  zA_c (zOk_fl zn_pushl (zs_lconst (n := 1) (by decide +kernel) rfl)) <|
  zA_c (zOk_fl zn_iload (zs_iload (by decide +kernel))) <|
  zA_c (zOk_fl zn_push (zs_iconst (n := 1) (by decide +kernel) rfl)) <|
  zA_c (zOk_fl zn_bin (zs_isub (by decide +kernel))) <|
  zA_c (zOk_fl zn_shl (zs_lshl (by decide +kernel))) <|
  zA_c (zOk_fl zn_binl (zs_lor (by decide +kernel))) <|
  zA_c (zOk_fl zn_lstore (zs_lstore (by decide +kernel))) <|
  zA_c (zOk_fl zn_iload (zs_iload_n (q := 3) rfl (by decide +kernel))) <|
  zA_c (zOk_fl zn_push (zs_bipush (n := 7) (by decide +kernel) rfl)) <|
  zA_n
def zcl_81_4 : List (Nat × zmI) := [(128, zm_icge 131 156), (131, zm_aload 132 0), (132, zm_getR 135 2 0), (135, zm_iload 137 7), (137, zm_push 138 1), (138, zm_bin 139 (fun x y => w32 (x + y))), (139, zm_ald 140 100), (140, zm_iload 141 2), (141, zm_bin 142 (fun x y => w32 (x * y))), (142, zm_ifge 145 156), (145, zm_lload 147 5), (147, zm_pushl 148 1), (148, zm_iload 150 7), (150, zm_push 151 1), (151, zm_bin 152 (fun x y => w32 (x + y))), (152, zm_shl 153 z_shll), (153, zm_binl 154 z_orl), (154, zm_lstore 156 5), (156, zm_lload 158 5), (158, zm_lret)]
theorem zmc_81_4 (l : Launch) : zAll l "ChessWire$Board" prog_2_method_20_code 9 false (some .long) zcl_81_4 :=
  zA_c (zOk_fl zn_icge (zs_icge (off := 28) (by decide +kernel) (by decide))) <|
  zA_c (zOk_fl zn_aload (zs_aload_n (q := 0) rfl (by decide +kernel))) <|
  zA_c (zOk_fl zn_getR (zs_getR (k := 0) rfl (by decide) (by decide +kernel) rfl (by decide +kernel) zw_56)) <|
  zA_c (zOk_fl zn_iload (zs_iload (by decide +kernel))) <|
  zA_c (zOk_fl zn_push (zs_iconst (n := 1) (by decide +kernel) rfl)) <|
  zA_c (zOk_fl zn_bin (zs_iadd (by decide +kernel))) <|
  zA_c (zOk_fl zn_ald (zs_iald (by decide +kernel))) <|
  zA_c (zOk_fl zn_iload (zs_iload_n (q := 2) rfl (by decide +kernel))) <|
  zA_c (zOk_fl zn_bin (zs_imul (by decide +kernel))) <|
  zA_c (zOk_fl zn_ifge (zs_ifge (off := 14) (by decide +kernel) (by decide))) <|
  zA_c (zOk_fl zn_lload (zs_lload (by decide +kernel))) <|
  zA_c (zOk_fl zn_pushl (zs_lconst (n := 1) (by decide +kernel) rfl)) <|
  zA_c (zOk_fl zn_iload (zs_iload (by decide +kernel))) <|
  zA_c (zOk_fl zn_push (zs_iconst (n := 1) (by decide +kernel) rfl)) <|
  zA_c (zOk_fl zn_bin (zs_iadd (by decide +kernel))) <|
  zA_c (zOk_fl zn_shl (zs_lshl (by decide +kernel))) <|
  zA_c (zOk_fl zn_binl (zs_lor (by decide +kernel))) <|
  zA_c (zOk_fl zn_lstore (zs_lstore (by decide +kernel))) <|
  zA_c (zOk_fl zn_lload (zs_lload (by decide +kernel))) <|
  zA_c (zs_lret (by decide +kernel) rfl) <|
  zA_n
def zc_81 : Nat → zmI := zgetC [zcl_81_0, zcl_81_1, zcl_81_2, zcl_81_3, zcl_81_4]
theorem zmf_81 (l : Launch) : zMf l zc_81 81 := ⟨by decide +kernel, false, (fun h => by cases h), fun pc => zgetC_ok (zA2_c (zmc_81_0 l) (zA2_c (zmc_81_1 l) (zA2_c (zmc_81_2 l) (zA2_c (zmc_81_3 l) (zA2_c (zmc_81_4 l) (zA2_n)))))) pc⟩
