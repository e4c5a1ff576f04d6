/-! the two objects' making, run -/
def zshL : List (Nat × Nat × Nat) → (Nat → Nat × Nat) → Nat → Nat × Nat
  | [], f => f
  | (a, x) :: t, f => zupS (zshL t f) a x
def zlkR : List (Nat × Int × Nat) → (Nat → Int → Option Nat) → Nat → Int → Option Nat
  | [], f => f
  | (a, i, r) :: t, f => zup (zlkR t f) a i (some r)
def zlkI : List (Nat × Int × Int) → (Nat → Int → Int) → Nat → Int → Int
  | [], f => f
  | (a, i, r) :: t, f => zup (zlkI t f) a i r
def zPW (L : Nat) (xs : Nat → Int32) (n sl : Nat) (S : List (Nat × Nat × Nat)) (R : List (Nat × Int × Nat)) (I : List (Nat × Int × Int)) : zmW := (n, sl, zshL S (zE0 L xs).2.2.1, zlkR R (zE0 L xs).2.2.2.1, zlkI I (zE0 L xs).2.2.2.2)
theorem zmE_callSd {K : zmK} {zc : Nat → zmI} {pc nx y n : Nat} {v : Bool} {L : zmL} {st0 st A : List zmV} {w : zmW} {r : zmR} {c' : zmC} (h : zc pc = zm_call nx y n v 99) (hA : (st0.take n).reverse = A) (hs : st0.drop n = st) (hl : n ≤ st0.length) (h8 : (st.map zcat).sum ≤ 8) (hk : K y A w = some r) (hz : zafter nx L st v r = some (.inl c')) : zmE K zc (pc, L, st0, w) = zmE K zc c' := by
  rw [zmE_callS h hA hs hl h8, hk]
  show zmG K zc (zafter nx L st v r) = _
  rw [hz]
  rfl
theorem zmE_callVd {K : zmK} {zc : Nat → zmI} {pc nx y n ci a : Nat} {v : Bool} {L : zmL} {st0 st A0 : List zmV} {w : zmW} {r : zmR} {c' : zmC} (h : zc pc = zm_call nx y n v ci) (hci : (ci == 99) = false) (hw : (w.2.2.1 a).1 = ci) (hA : (st0.take n).reverse = zr a :: A0) (hs : st0.drop n = st) (hl : n ≤ st0.length) (h8 : (st.map zcat).sum ≤ 8) (hk : K y (zr a :: A0) w = some r) (hz : zafter nx L st v r = some (.inl c')) : zmE K zc (pc, L, st0, w) = zmE K zc c' := by
  rw [zmE_callV h hci hA hs hl h8]
  unfold zcv
  rw [if_pos hw, hk]
  show zmG K zc (zafter nx L st v r) = _
  rw [hz]
  rfl
def zqS_0 : List (Nat × Nat × Nat) := []
def zqR_0 : List (Nat × Int × Nat) := []
def zqI_0 : List (Nat × Int × Int) := []
def zqS_1 : List (Nat × Nat × Nat) := (0, 0, 0) :: zqS_0
def zqS_2 : List (Nat × Nat × Nat) := (2, 1, 0) :: (1, 103, 3) :: zqS_1
def zqS_3 : List (Nat × Nat × Nat) := (3, 100, 80) :: zqS_2
def zqR_1 : List (Nat × Int × Nat) := (2, 0, 3) :: zqR_0
def zqR_2 : List (Nat × Int × Nat) := (1, 0, 2) :: zqR_1
def zqS_4 : List (Nat × Nat × Nat) := (4, 1, 0) :: zqS_3
def zqS_5 : List (Nat × Nat × Nat) := (5, 100, 10) :: zqS_4
def zqR_3 : List (Nat × Int × Nat) := (4, 0, 5) :: zqR_2
def zqR_4 : List (Nat × Int × Nat) := (1, 1, 4) :: zqR_3
def zqS_6 : List (Nat × Nat × Nat) := (6, 1, 0) :: zqS_5
def zqS_7 : List (Nat × Nat × Nat) := (7, 100, 60) :: zqS_6
def zqR_5 : List (Nat × Int × Nat) := (6, 0, 7) :: zqR_4
def zqR_6 : List (Nat × Int × Nat) := (1, 2, 6) :: zqR_5
def zqS_8 : List (Nat × Nat × Nat) := (8, 2, 0) :: zqS_7
def zqR_7 : List (Nat × Int × Nat) := (0, 0, 1) :: zqR_6
def zqS_9 : List (Nat × Nat × Nat) := (9, 100, 64) :: zqS_8
def zqR_8 : List (Nat × Int × Nat) := (8, 0, 9) :: zqR_7
def zqI_1 : List (Nat × Int × Int) := (9, 63, (-6)) :: (9, 0, 6) :: zqI_0
def zqI_2 : List (Nat × Int × Int) := (8, 3, 63) :: (8, 2, 0) :: zqI_1
def zqR_9 : List (Nat × Int × Nat) := (0, 1, 8) :: zqR_8
def zqS_10 : List (Nat × Nat × Nat) := (10, 3, 0) :: zqS_9
def zqI_3 : List (Nat × Int × Int) := (10, 2, 0) :: zqI_2
def zqR_10 : List (Nat × Int × Nat) := (0, 2, 10) :: zqR_9
def zqS_11 : List (Nat × Nat × Nat) := (11, 4, 0) :: zqS_10
def zqI_4 : List (Nat × Int × Int) := (11, 2, 1) :: zqI_3
def zqR_11 : List (Nat × Int × Nat) := (0, 3, 11) :: zqR_10
def zqS_12 : List (Nat × Nat × Nat) := (12, 4, 0) :: zqS_11
def zqI_5 : List (Nat × Int × Int) := (12, 2, 1) :: zqI_4
def zqR_12 : List (Nat × Int × Nat) := (0, 4, 12) :: zqR_11
def zqS_13 : List (Nat × Nat × Nat) := (13, 5, 0) :: zqS_12
def zqS_14 : List (Nat × Nat × Nat) := (15, 100, 640) :: (14, 100, 640) :: zqS_13
def zqR_13 : List (Nat × Int × Nat) := (13, 0, 14) :: zqR_12
def zqS_15 : List (Nat × Nat × Nat) := (16, 100, 640) :: zqS_14
def zqR_14 : List (Nat × Int × Nat) := (13, 2, 16) :: (13, 1, 15) :: zqR_13
def zqR_15 : List (Nat × Int × Nat) := (0, 5, 13) :: zqR_14
def zqS_16 : List (Nat × Nat × Nat) := (17, 6, 0) :: zqS_15
def zqS_17 : List (Nat × Nat × Nat) := (18, 100, 3072) :: zqS_16
def zqR_16 : List (Nat × Int × Nat) := (17, 0, 18) :: zqR_15
def zqR_17 : List (Nat × Int × Nat) := (0, 6, 17) :: zqR_16
def zqS_18 : List (Nat × Nat × Nat) := (19, 100, 6) :: zqS_17
def zqI_6 : List (Nat × Int × Int) := (19, 0, 1) :: zqI_5
def zqI_7 : List (Nat × Int × Int) := (19, 2, 1) :: (19, 1, 1) :: zqI_6
def zqI_8 : List (Nat × Int × Int) := (19, 4, 1) :: (19, 3, 1) :: zqI_7
def zqS_19 : List (Nat × Nat × Nat) := (20, 7, 0) :: zqS_18
def zqR_18 : List (Nat × Int × Nat) := (0, 7, 19) :: zqR_17
def zqI_9 : List (Nat × Int × Int) := (19, 5, 1) :: zqI_8
def zqS_20 : List (Nat × Nat × Nat) := (21, 100, 666) :: zqS_19
def zqR_19 : List (Nat × Int × Nat) := (20, 0, 21) :: zqR_18
def zqS_21 : List (Nat × Nat × Nat) := (22, 100, 666) :: zqS_20
def zqR_20 : List (Nat × Int × Nat) := (20, 1, 22) :: zqR_19
def zqR_21 : List (Nat × Int × Nat) := (0, 8, 20) :: zqR_20
def zqS_22 : List (Nat × Nat × Nat) := (23, 8, 0) :: zqS_21
def zqS_23 : List (Nat × Nat × Nat) := (24, 6, 0) :: zqS_22
def zqS_24 : List (Nat × Nat × Nat) := (25, 100, 3072) :: zqS_23
def zqR_22 : List (Nat × Int × Nat) := (24, 0, 25) :: zqR_21
def zqR_23 : List (Nat × Int × Nat) := (23, 0, 24) :: zqR_22
def zqS_25 : List (Nat × Nat × Nat) := (27, 4, 0) :: (26, 100, 6) :: zqS_24
def zqR_24 : List (Nat × Int × Nat) := (23, 1, 26) :: zqR_23
def zqI_10 : List (Nat × Int × Int) := (27, 2, 1) :: zqI_9
def zqS_26 : List (Nat × Nat × Nat) := (28, 2, 0) :: zqS_25
def zqR_25 : List (Nat × Int × Nat) := (23, 2, 27) :: zqR_24
def zqS_27 : List (Nat × Nat × Nat) := (29, 100, 64) :: zqS_26
def zqR_26 : List (Nat × Int × Nat) := (28, 0, 29) :: zqR_25
def zqI_11 : List (Nat × Int × Int) := (29, 63, (-6)) :: (29, 0, 6) :: zqI_10
def zqI_12 : List (Nat × Int × Int) := (28, 3, 63) :: (28, 2, 0) :: zqI_11
def zqR_27 : List (Nat × Int × Nat) := (23, 3, 28) :: zqR_26
def zqS_28 : List (Nat × Nat × Nat) := (30, 2, 0) :: zqS_27
def zqS_29 : List (Nat × Nat × Nat) := (31, 100, 64) :: zqS_28
def zqR_28 : List (Nat × Int × Nat) := (30, 0, 31) :: zqR_27
def zqI_13 : List (Nat × Int × Int) := (31, 63, (-6)) :: (31, 0, 6) :: zqI_12
def zqI_14 : List (Nat × Int × Int) := (30, 3, 63) :: (30, 2, 0) :: zqI_13
def zqR_29 : List (Nat × Int × Nat) := (23, 4, 30) :: zqR_28
def zqS_30 : List (Nat × Nat × Nat) := (32, 5, 0) :: zqS_29
def zqS_31 : List (Nat × Nat × Nat) := (34, 100, 640) :: (33, 100, 640) :: zqS_30
def zqR_30 : List (Nat × Int × Nat) := (32, 0, 33) :: zqR_29
def zqS_32 : List (Nat × Nat × Nat) := (35, 100, 640) :: zqS_31
def zqR_31 : List (Nat × Int × Nat) := (32, 2, 35) :: (32, 1, 34) :: zqR_30
def zqR_32 : List (Nat × Int × Nat) := (23, 5, 32) :: zqR_31
def zqS_33 : List (Nat × Nat × Nat) := (36, 5, 0) :: zqS_32
def zqS_34 : List (Nat × Nat × Nat) := (38, 100, 640) :: (37, 100, 640) :: zqS_33
def zqR_33 : List (Nat × Int × Nat) := (36, 0, 37) :: zqR_32
def zqS_35 : List (Nat × Nat × Nat) := (39, 100, 640) :: zqS_34
def zqR_34 : List (Nat × Int × Nat) := (36, 2, 39) :: (36, 1, 38) :: zqR_33
def zqR_35 : List (Nat × Int × Nat) := (23, 6, 36) :: zqR_34
def zqS_36 : List (Nat × Nat × Nat) := (41, 100, 9) :: (40, 100, 9) :: zqS_35
def zqR_36 : List (Nat × Int × Nat) := (23, 7, 40) :: zqR_35
def zqR_37 : List (Nat × Int × Nat) := (23, 8, 41) :: zqR_36
def zqR_38 : List (Nat × Int × Nat) := (0, 9, 23) :: zqR_37
def zqS_37 : List (Nat × Nat × Nat) := (42, 9, 0) :: zqS_36
def zqS_38 : List (Nat × Nat × Nat) := (43, 104, 12) :: zqS_37
def zqR_39 : List (Nat × Int × Nat) := (42, 0, 43) :: zqR_38
def zqS_39 : List (Nat × Nat × Nat) := (44, 4, 0) :: zqS_38
def zqI_15 : List (Nat × Int × Int) := (44, 2, 1) :: zqI_14
def zqR_40 : List (Nat × Int × Nat) := (43, 0, 44) :: zqR_39
def zqS_40 : List (Nat × Nat × Nat) := (45, 4, 0) :: zqS_39
def zqI_16 : List (Nat × Int × Int) := (45, 2, 1) :: zqI_15
def zqR_41 : List (Nat × Int × Nat) := (43, 1, 45) :: zqR_40
def zqS_41 : List (Nat × Nat × Nat) := (46, 4, 0) :: zqS_40
def zqI_17 : List (Nat × Int × Int) := (46, 2, 1) :: zqI_16
def zqR_42 : List (Nat × Int × Nat) := (43, 2, 46) :: zqR_41
def zqS_42 : List (Nat × Nat × Nat) := (47, 4, 0) :: zqS_41
def zqI_18 : List (Nat × Int × Int) := (47, 2, 1) :: zqI_17
def zqR_43 : List (Nat × Int × Nat) := (43, 3, 47) :: zqR_42
def zqS_43 : List (Nat × Nat × Nat) := (48, 4, 0) :: zqS_42
def zqI_19 : List (Nat × Int × Int) := (48, 2, 1) :: zqI_18
def zqR_44 : List (Nat × Int × Nat) := (43, 4, 48) :: zqR_43
def zqS_44 : List (Nat × Nat × Nat) := (49, 4, 0) :: zqS_43
def zqI_20 : List (Nat × Int × Int) := (49, 2, 1) :: zqI_19
def zqR_45 : List (Nat × Int × Nat) := (43, 5, 49) :: zqR_44
def zqS_45 : List (Nat × Nat × Nat) := (50, 4, 0) :: zqS_44
def zqI_21 : List (Nat × Int × Int) := (50, 2, 1) :: zqI_20
def zqR_46 : List (Nat × Int × Nat) := (43, 6, 50) :: zqR_45
def zqS_46 : List (Nat × Nat × Nat) := (51, 4, 0) :: zqS_45
def zqI_22 : List (Nat × Int × Int) := (51, 2, 1) :: zqI_21
def zqR_47 : List (Nat × Int × Nat) := (43, 7, 51) :: zqR_46
def zqS_47 : List (Nat × Nat × Nat) := (52, 4, 0) :: zqS_46
def zqI_23 : List (Nat × Int × Int) := (52, 2, 1) :: zqI_22
def zqR_48 : List (Nat × Int × Nat) := (43, 8, 52) :: zqR_47
def zqS_48 : List (Nat × Nat × Nat) := (53, 4, 0) :: zqS_47
def zqI_24 : List (Nat × Int × Int) := (53, 2, 1) :: zqI_23
def zqR_49 : List (Nat × Int × Nat) := (43, 9, 53) :: zqR_48
def zqS_49 : List (Nat × Nat × Nat) := (54, 4, 0) :: zqS_48
def zqI_25 : List (Nat × Int × Int) := (54, 2, 1) :: zqI_24
def zqR_50 : List (Nat × Int × Nat) := (43, 10, 54) :: zqR_49
def zqS_50 : List (Nat × Nat × Nat) := (55, 4, 0) :: zqS_49
def zqI_26 : List (Nat × Int × Int) := (55, 2, 1) :: zqI_25
def zqR_51 : List (Nat × Int × Nat) := (43, 11, 55) :: zqR_50
def zqS_51 : List (Nat × Nat × Nat) := (56, 100, 12) :: zqS_50
def zqS_52 : List (Nat × Nat × Nat) := (57, 100, 12) :: zqS_51
def zqR_52 : List (Nat × Int × Nat) := (42, 2, 57) :: (42, 1, 56) :: zqR_51
def zqS_53 : List (Nat × Nat × Nat) := (58, 2, 0) :: zqS_52
def zqS_54 : List (Nat × Nat × Nat) := (59, 100, 64) :: zqS_53
def zqR_53 : List (Nat × Int × Nat) := (58, 0, 59) :: zqR_52
def zqI_27 : List (Nat × Int × Int) := (59, 63, (-6)) :: (59, 0, 6) :: zqI_26
def zqI_28 : List (Nat × Int × Int) := (58, 3, 63) :: (58, 2, 0) :: zqI_27
def zqR_54 : List (Nat × Int × Nat) := (42, 3, 58) :: zqR_53
def zqS_55 : List (Nat × Nat × Nat) := (60, 5, 0) :: zqS_54
def zqS_56 : List (Nat × Nat × Nat) := (62, 100, 2) :: (61, 100, 2) :: zqS_55
def zqR_55 : List (Nat × Int × Nat) := (60, 0, 61) :: zqR_54
def zqS_57 : List (Nat × Nat × Nat) := (63, 100, 2) :: zqS_56
def zqR_56 : List (Nat × Int × Nat) := (60, 2, 63) :: (60, 1, 62) :: zqR_55
def zqR_57 : List (Nat × Int × Nat) := (42, 4, 60) :: zqR_56
def zqR_58 : List (Nat × Int × Nat) := (0, 10, 42) :: zqR_57
def zqS_58 : List (Nat × Nat × Nat) := (64, 10, 0) :: zqS_57
def zqS_59 : List (Nat × Nat × Nat) := (66, 2, 0) :: (65, 105, 3) :: zqS_58
def zqS_60 : List (Nat × Nat × Nat) := (67, 100, 64) :: zqS_59
def zqR_59 : List (Nat × Int × Nat) := (66, 0, 67) :: zqR_58
def zqI_29 : List (Nat × Int × Int) := (67, 63, (-6)) :: (67, 0, 6) :: zqI_28
def zqI_30 : List (Nat × Int × Int) := (66, 3, 63) :: (66, 2, 0) :: zqI_29
def zqR_60 : List (Nat × Int × Nat) := (65, 0, 66) :: zqR_59
def zqS_61 : List (Nat × Nat × Nat) := (68, 2, 0) :: zqS_60
def zqS_62 : List (Nat × Nat × Nat) := (69, 100, 64) :: zqS_61
def zqR_61 : List (Nat × Int × Nat) := (68, 0, 69) :: zqR_60
def zqI_31 : List (Nat × Int × Int) := (69, 63, (-6)) :: (69, 0, 6) :: zqI_30
def zqI_32 : List (Nat × Int × Int) := (68, 3, 63) :: (68, 2, 0) :: zqI_31
def zqR_62 : List (Nat × Int × Nat) := (65, 1, 68) :: zqR_61
def zqS_63 : List (Nat × Nat × Nat) := (70, 2, 0) :: zqS_62
def zqS_64 : List (Nat × Nat × Nat) := (71, 100, 64) :: zqS_63
def zqR_63 : List (Nat × Int × Nat) := (70, 0, 71) :: zqR_62
def zqI_33 : List (Nat × Int × Int) := (71, 63, (-6)) :: (71, 0, 6) :: zqI_32
def zqI_34 : List (Nat × Int × Int) := (70, 3, 63) :: (70, 2, 0) :: zqI_33
def zqR_64 : List (Nat × Int × Nat) := (65, 2, 70) :: zqR_63
def zqS_65 : List (Nat × Nat × Nat) := (73, 5, 0) :: (72, 106, 3) :: zqS_64
def zqR_65 : List (Nat × Int × Nat) := (64, 0, 65) :: zqR_64
def zqS_66 : List (Nat × Nat × Nat) := (75, 100, 41) :: (74, 100, 41) :: zqS_65
def zqR_66 : List (Nat × Int × Nat) := (73, 0, 74) :: zqR_65
def zqS_67 : List (Nat × Nat × Nat) := (76, 100, 41) :: zqS_66
def zqR_67 : List (Nat × Int × Nat) := (73, 2, 76) :: (73, 1, 75) :: zqR_66
def zqR_68 : List (Nat × Int × Nat) := (72, 0, 73) :: zqR_67
def zqS_68 : List (Nat × Nat × Nat) := (77, 5, 0) :: zqS_67
def zqS_69 : List (Nat × Nat × Nat) := (79, 100, 41) :: (78, 100, 41) :: zqS_68
def zqR_69 : List (Nat × Int × Nat) := (77, 0, 78) :: zqR_68
def zqS_70 : List (Nat × Nat × Nat) := (80, 100, 41) :: zqS_69
def zqR_70 : List (Nat × Int × Nat) := (77, 2, 80) :: (77, 1, 79) :: zqR_69
def zqR_71 : List (Nat × Int × Nat) := (72, 1, 77) :: zqR_70
def zqS_71 : List (Nat × Nat × Nat) := (81, 5, 0) :: zqS_70
def zqS_72 : List (Nat × Nat × Nat) := (83, 100, 41) :: (82, 100, 41) :: zqS_71
def zqR_72 : List (Nat × Int × Nat) := (81, 0, 82) :: zqR_71
def zqS_73 : List (Nat × Nat × Nat) := (84, 100, 41) :: zqS_72
def zqR_73 : List (Nat × Int × Nat) := (81, 2, 84) :: (81, 1, 83) :: zqR_72
def zqR_74 : List (Nat × Int × Nat) := (72, 2, 81) :: zqR_73
def zqS_74 : List (Nat × Nat × Nat) := (85, 100, 3) :: zqS_73
def zqR_75 : List (Nat × Int × Nat) := (64, 2, 85) :: (64, 1, 72) :: zqR_74
def zqS_75 : List (Nat × Nat × Nat) := (87, 100, 3) :: (86, 100, 3) :: zqS_74
def zqR_76 : List (Nat × Int × Nat) := (64, 3, 86) :: zqR_75
def zqS_76 : List (Nat × Nat × Nat) := (88, 101, 192) :: zqS_75
def zqR_77 : List (Nat × Int × Nat) := (64, 5, 88) :: (64, 4, 87) :: zqR_76
def zqR_78 : List (Nat × Int × Nat) := (0, 11, 64) :: zqR_77
def zqS_77 : List (Nat × Nat × Nat) := (90, 11, 0) :: (89, 107, 4) :: zqS_76
def zqS_78 : List (Nat × Nat × Nat) := (91, 100, 60) :: zqS_77
def zqR_79 : List (Nat × Int × Nat) := (90, 0, 91) :: zqR_78
def zqR_80 : List (Nat × Int × Nat) := (89, 0, 90) :: zqR_79
def zqS_79 : List (Nat × Nat × Nat) := (92, 11, 0) :: zqS_78
def zqS_80 : List (Nat × Nat × Nat) := (93, 100, 60) :: zqS_79
def zqR_81 : List (Nat × Int × Nat) := (92, 0, 93) :: zqR_80
def zqR_82 : List (Nat × Int × Nat) := (89, 1, 92) :: zqR_81
def zqS_81 : List (Nat × Nat × Nat) := (94, 11, 0) :: zqS_80
def zqS_82 : List (Nat × Nat × Nat) := (95, 100, 60) :: zqS_81
def zqR_83 : List (Nat × Int × Nat) := (94, 0, 95) :: zqR_82
def zqR_84 : List (Nat × Int × Nat) := (89, 2, 94) :: zqR_83
def zqS_83 : List (Nat × Nat × Nat) := (96, 11, 0) :: zqS_82
def zqS_84 : List (Nat × Nat × Nat) := (97, 100, 60) :: zqS_83
def zqR_85 : List (Nat × Int × Nat) := (96, 0, 97) :: zqR_84
def zqR_86 : List (Nat × Int × Nat) := (89, 3, 96) :: zqR_85
def zqR_87 : List (Nat × Int × Nat) := (0, 12, 89) :: zqR_86
def zqS_85 : List (Nat × Nat × Nat) := (98, 12, 0) :: zqS_84
def zqS_86 : List (Nat × Nat × Nat) := (99, 100, 4) :: zqS_85
def zqR_88 : List (Nat × Int × Nat) := (98, 0, 99) :: zqR_87
def zqS_87 : List (Nat × Nat × Nat) := (101, 100, 240) :: (100, 100, 4) :: zqS_86
def zqR_89 : List (Nat × Int × Nat) := (98, 1, 100) :: zqR_88
def zqS_88 : List (Nat × Nat × Nat) := (102, 100, 60) :: zqS_87
def zqR_90 : List (Nat × Int × Nat) := (98, 3, 102) :: (98, 2, 101) :: zqR_89
def zqS_89 : List (Nat × Nat × Nat) := (104, 100, 3) :: (103, 100, 150) :: zqS_88
def zqR_91 : List (Nat × Int × Nat) := (98, 5, 103) :: zqR_90
def zqS_90 : List (Nat × Nat × Nat) := (105, 100, 256) :: zqS_89
def zqR_92 : List (Nat × Int × Nat) := (98, 8, 105) :: (98, 6, 104) :: zqR_91
def zqS_91 : List (Nat × Nat × Nat) := (107, 100, 2048) :: (106, 100, 4) :: zqS_90
def zqR_93 : List (Nat × Int × Nat) := (98, 9, 106) :: zqR_92
def zqS_92 : List (Nat × Nat × Nat) := (108, 100, 4) :: zqS_91
def zqR_94 : List (Nat × Int × Nat) := (98, 12, 108) :: (98, 11, 107) :: zqR_93
def zqS_93 : List (Nat × Nat × Nat) := (110, 100, 5) :: (109, 100, 5) :: zqS_92
def zqR_95 : List (Nat × Int × Nat) := (98, 18, 109) :: zqR_94
def zqS_94 : List (Nat × Nat × Nat) := (111, 100, 6) :: zqS_93
def zqR_96 : List (Nat × Int × Nat) := (98, 22, 111) :: (98, 20, 110) :: zqR_95
def zqS_95 : List (Nat × Nat × Nat) := (113, 100, 512) :: (112, 100, 600) :: zqS_94
def zqR_97 : List (Nat × Int × Nat) := (98, 23, 112) :: zqR_96
def zqS_96 : List (Nat × Nat × Nat) := (114, 100, 13) :: zqS_95
def zqR_98 : List (Nat × Int × Nat) := (98, 28, 114) :: (98, 26, 113) :: zqR_97
def zqS_97 : List (Nat × Nat × Nat) := (116, 100, 3) :: (115, 100, 12) :: zqS_96
def zqR_99 : List (Nat × Int × Nat) := (98, 29, 115) :: zqR_98
def zqS_98 : List (Nat × Nat × Nat) := (117, 102, 12288) :: zqS_97
def zqR_100 : List (Nat × Int × Nat) := (98, 36, 117) :: (98, 35, 116) :: zqR_99
def zqI_35 : List (Nat × Int × Int) := (99, 0, (-1)) :: zqI_34
def zqI_36 : List (Nat × Int × Int) := (99, 1, (-1)) :: zqI_35
def zqI_37 : List (Nat × Int × Int) := (99, 2, (-1)) :: zqI_36
def zqI_38 : List (Nat × Int × Int) := (99, 3, (-1)) :: zqI_37
def zqI_39 : List (Nat × Int × Int) := (111, 0, 1) :: zqI_38
def zqI_40 : List (Nat × Int × Int) := (111, 1, 1) :: zqI_39
def zqI_41 : List (Nat × Int × Int) := (111, 2, 1) :: zqI_40
def zqI_42 : List (Nat × Int × Int) := (111, 3, 1) :: zqI_41
def zqI_43 : List (Nat × Int × Int) := (111, 4, 1) :: zqI_42
def zqI_44 : List (Nat × Int × Int) := (111, 5, 1) :: zqI_43
def zqI_45 : List (Nat × Int × Int) := (98, 10, 0) :: zqI_44
def zqI_46 : List (Nat × Int × Int) := (98, 7, 0) :: zqI_45
def zqI_47 : List (Nat × Int × Int) := (105, 0, 0) :: zqI_46
def zqI_48 : List (Nat × Int × Int) := (105, 1, 0) :: zqI_47
def zqI_49 : List (Nat × Int × Int) := (105, 2, 0) :: zqI_48
def zqI_50 : List (Nat × Int × Int) := (105, 3, 0) :: zqI_49
def zqI_51 : List (Nat × Int × Int) := (105, 4, 0) :: zqI_50
def zqI_52 : List (Nat × Int × Int) := (105, 5, 0) :: zqI_51
def zqI_53 : List (Nat × Int × Int) := (105, 6, 0) :: zqI_52
def zqI_54 : List (Nat × Int × Int) := (105, 7, 0) :: zqI_53
def zqI_55 : List (Nat × Int × Int) := (105, 8, 0) :: zqI_54
def zqI_56 : List (Nat × Int × Int) := (105, 9, 0) :: zqI_55
def zqI_57 : List (Nat × Int × Int) := (105, 10, 0) :: zqI_56
def zqI_58 : List (Nat × Int × Int) := (105, 11, 0) :: zqI_57
def zqI_59 : List (Nat × Int × Int) := (105, 12, 0) :: zqI_58
def zqI_60 : List (Nat × Int × Int) := (105, 13, 0) :: zqI_59
def zqI_61 : List (Nat × Int × Int) := (105, 14, 0) :: zqI_60
def zqI_62 : List (Nat × Int × Int) := (105, 15, 0) :: zqI_61
def zqI_63 : List (Nat × Int × Int) := (105, 16, 0) :: zqI_62
def zqI_64 : List (Nat × Int × Int) := (105, 17, 0) :: zqI_63
def zqI_65 : List (Nat × Int × Int) := (105, 18, 0) :: zqI_64
def zqI_66 : List (Nat × Int × Int) := (105, 19, 0) :: zqI_65
def zqI_67 : List (Nat × Int × Int) := (105, 20, 0) :: zqI_66
def zqI_68 : List (Nat × Int × Int) := (105, 21, 0) :: zqI_67
def zqI_69 : List (Nat × Int × Int) := (105, 22, 0) :: zqI_68
def zqI_70 : List (Nat × Int × Int) := (105, 23, 0) :: zqI_69
def zqI_71 : List (Nat × Int × Int) := (105, 24, 0) :: zqI_70
def zqI_72 : List (Nat × Int × Int) := (105, 25, 0) :: zqI_71
def zqI_73 : List (Nat × Int × Int) := (105, 26, 0) :: zqI_72
def zqI_74 : List (Nat × Int × Int) := (105, 27, 0) :: zqI_73
def zqI_75 : List (Nat × Int × Int) := (105, 28, 0) :: zqI_74
def zqI_76 : List (Nat × Int × Int) := (105, 29, 0) :: zqI_75
def zqI_77 : List (Nat × Int × Int) := (105, 30, 0) :: zqI_76
def zqI_78 : List (Nat × Int × Int) := (105, 31, 0) :: zqI_77
def zqI_79 : List (Nat × Int × Int) := (105, 32, 0) :: zqI_78
def zqI_80 : List (Nat × Int × Int) := (105, 33, 0) :: zqI_79
def zqI_81 : List (Nat × Int × Int) := (105, 34, 0) :: zqI_80
def zqI_82 : List (Nat × Int × Int) := (105, 35, 0) :: zqI_81
def zqI_83 : List (Nat × Int × Int) := (105, 36, 0) :: zqI_82
def zqI_84 : List (Nat × Int × Int) := (105, 37, 0) :: zqI_83
def zqI_85 : List (Nat × Int × Int) := (105, 38, 0) :: zqI_84
def zqI_86 : List (Nat × Int × Int) := (105, 39, 0) :: zqI_85
def zqI_87 : List (Nat × Int × Int) := (105, 40, 0) :: zqI_86
def zqI_88 : List (Nat × Int × Int) := (105, 41, 0) :: zqI_87
def zqI_89 : List (Nat × Int × Int) := (105, 42, 0) :: zqI_88
def zqI_90 : List (Nat × Int × Int) := (105, 43, 0) :: zqI_89
def zqI_91 : List (Nat × Int × Int) := (105, 44, 0) :: zqI_90
def zqI_92 : List (Nat × Int × Int) := (105, 45, 0) :: zqI_91
def zqI_93 : List (Nat × Int × Int) := (105, 46, 0) :: zqI_92
def zqI_94 : List (Nat × Int × Int) := (105, 47, 0) :: zqI_93
def zqI_95 : List (Nat × Int × Int) := (105, 48, 0) :: zqI_94
def zqI_96 : List (Nat × Int × Int) := (105, 49, 0) :: zqI_95
def zqI_97 : List (Nat × Int × Int) := (105, 50, 0) :: zqI_96
def zqI_98 : List (Nat × Int × Int) := (105, 51, 0) :: zqI_97
def zqI_99 : List (Nat × Int × Int) := (105, 52, 0) :: zqI_98
def zqI_100 : List (Nat × Int × Int) := (105, 53, 0) :: zqI_99
def zqI_101 : List (Nat × Int × Int) := (105, 54, 0) :: zqI_100
def zqI_102 : List (Nat × Int × Int) := (105, 55, 0) :: zqI_101
def zqI_103 : List (Nat × Int × Int) := (105, 56, 0) :: zqI_102
def zqI_104 : List (Nat × Int × Int) := (105, 57, 0) :: zqI_103
def zqI_105 : List (Nat × Int × Int) := (105, 58, 0) :: zqI_104
def zqI_106 : List (Nat × Int × Int) := (105, 59, 0) :: zqI_105
def zqI_107 : List (Nat × Int × Int) := (105, 60, 0) :: zqI_106
def zqI_108 : List (Nat × Int × Int) := (105, 61, 0) :: zqI_107
def zqI_109 : List (Nat × Int × Int) := (105, 62, 0) :: zqI_108
def zqI_110 : List (Nat × Int × Int) := (105, 63, 0) :: zqI_109
def zqI_111 : List (Nat × Int × Int) := (105, 0, 6) :: zqI_110
def zqI_112 : List (Nat × Int × Int) := (105, 1, 0) :: zqI_111
def zqI_113 : List (Nat × Int × Int) := (105, 2, 0) :: zqI_112
def zqI_114 : List (Nat × Int × Int) := (105, 3, 0) :: zqI_113
def zqI_115 : List (Nat × Int × Int) := (105, 4, 0) :: zqI_114
def zqI_116 : List (Nat × Int × Int) := (105, 5, 0) :: zqI_115
def zqI_117 : List (Nat × Int × Int) := (105, 6, 0) :: zqI_116
def zqI_118 : List (Nat × Int × Int) := (105, 7, 0) :: zqI_117
def zqI_119 : List (Nat × Int × Int) := (105, 8, 0) :: zqI_118
def zqI_120 : List (Nat × Int × Int) := (105, 9, 0) :: zqI_119
def zqI_121 : List (Nat × Int × Int) := (105, 10, 0) :: zqI_120
def zqI_122 : List (Nat × Int × Int) := (105, 11, 0) :: zqI_121
def zqI_123 : List (Nat × Int × Int) := (105, 12, 0) :: zqI_122
def zqI_124 : List (Nat × Int × Int) := (105, 13, 0) :: zqI_123
def zqI_125 : List (Nat × Int × Int) := (105, 14, 0) :: zqI_124
def zqI_126 : List (Nat × Int × Int) := (105, 15, 0) :: zqI_125
def zqI_127 : List (Nat × Int × Int) := (105, 16, 0) :: zqI_126
def zqI_128 : List (Nat × Int × Int) := (105, 17, 0) :: zqI_127
def zqI_129 : List (Nat × Int × Int) := (105, 18, 0) :: zqI_128
def zqI_130 : List (Nat × Int × Int) := (105, 19, 0) :: zqI_129
def zqI_131 : List (Nat × Int × Int) := (105, 20, 0) :: zqI_130
def zqI_132 : List (Nat × Int × Int) := (105, 21, 0) :: zqI_131
def zqI_133 : List (Nat × Int × Int) := (105, 22, 0) :: zqI_132
def zqI_134 : List (Nat × Int × Int) := (105, 23, 0) :: zqI_133
def zqI_135 : List (Nat × Int × Int) := (105, 24, 0) :: zqI_134
def zqI_136 : List (Nat × Int × Int) := (105, 25, 0) :: zqI_135
def zqI_137 : List (Nat × Int × Int) := (105, 26, 0) :: zqI_136
def zqI_138 : List (Nat × Int × Int) := (105, 27, 0) :: zqI_137
def zqI_139 : List (Nat × Int × Int) := (105, 28, 0) :: zqI_138
def zqI_140 : List (Nat × Int × Int) := (105, 29, 0) :: zqI_139
def zqI_141 : List (Nat × Int × Int) := (105, 30, 0) :: zqI_140
def zqI_142 : List (Nat × Int × Int) := (105, 31, 0) :: zqI_141
def zqI_143 : List (Nat × Int × Int) := (105, 32, 0) :: zqI_142
def zqI_144 : List (Nat × Int × Int) := (105, 33, 0) :: zqI_143
def zqI_145 : List (Nat × Int × Int) := (105, 34, 0) :: zqI_144
def zqI_146 : List (Nat × Int × Int) := (105, 35, 0) :: zqI_145
def zqI_147 : List (Nat × Int × Int) := (105, 36, 0) :: zqI_146
def zqI_148 : List (Nat × Int × Int) := (105, 37, 0) :: zqI_147
def zqI_149 : List (Nat × Int × Int) := (105, 38, 0) :: zqI_148
def zqI_150 : List (Nat × Int × Int) := (105, 39, 0) :: zqI_149
def zqI_151 : List (Nat × Int × Int) := (105, 40, 0) :: zqI_150
def zqI_152 : List (Nat × Int × Int) := (105, 41, 0) :: zqI_151
def zqI_153 : List (Nat × Int × Int) := (105, 42, 0) :: zqI_152
def zqI_154 : List (Nat × Int × Int) := (105, 43, 0) :: zqI_153
def zqI_155 : List (Nat × Int × Int) := (105, 44, 0) :: zqI_154
def zqI_156 : List (Nat × Int × Int) := (105, 45, 0) :: zqI_155
def zqI_157 : List (Nat × Int × Int) := (105, 46, 0) :: zqI_156
def zqI_158 : List (Nat × Int × Int) := (105, 47, 0) :: zqI_157
def zqI_159 : List (Nat × Int × Int) := (105, 48, 0) :: zqI_158
def zqI_160 : List (Nat × Int × Int) := (105, 49, 0) :: zqI_159
def zqI_161 : List (Nat × Int × Int) := (105, 50, 0) :: zqI_160
def zqI_162 : List (Nat × Int × Int) := (105, 51, 0) :: zqI_161
def zqI_163 : List (Nat × Int × Int) := (105, 52, 0) :: zqI_162
def zqI_164 : List (Nat × Int × Int) := (105, 53, 0) :: zqI_163
def zqI_165 : List (Nat × Int × Int) := (105, 54, 0) :: zqI_164
def zqI_166 : List (Nat × Int × Int) := (105, 55, 0) :: zqI_165
def zqI_167 : List (Nat × Int × Int) := (105, 56, 0) :: zqI_166
def zqI_168 : List (Nat × Int × Int) := (105, 57, 0) :: zqI_167
def zqI_169 : List (Nat × Int × Int) := (105, 58, 0) :: zqI_168
def zqI_170 : List (Nat × Int × Int) := (105, 59, 0) :: zqI_169
def zqI_171 : List (Nat × Int × Int) := (105, 60, 0) :: zqI_170
def zqI_172 : List (Nat × Int × Int) := (105, 61, 0) :: zqI_171
def zqI_173 : List (Nat × Int × Int) := (105, 62, 0) :: zqI_172
def zqI_174 : List (Nat × Int × Int) := (105, 63, 14) :: zqI_173
def zqI_175 : List (Nat × Int × Int) := (106, 0, 0) :: zqI_174
set_option maxRecDepth 20000 in
theorem zct_3 (L : Nat) (xs : Nat → Int32) (d : Nat) : zmD zP (d + 1) 3 [zi 0, zi 80] (zPW L xs 3 22 zqS_2 zqR_0 zqI_0) = some (some (zi 80), (zPW L xs 3 22 zqS_2 zqR_0 zqI_0)) := by
  refine (show _ = zmE (zmD zP (d + 0)) zc_3 (0, [some (zi 0), some (zi 80)], [], (zPW L xs 3 22 zqS_2 zqR_0 zqI_0)) from rfl).trans ?_
  refine Eq.trans (zmE_pures (c' := (10, [some (zi 0), some (zi 80)], [zi 80], (zPW L xs 3 22 zqS_2 zqR_0 zqI_0))) 4 rfl) ?_
  exact zmE_ret rfl
set_option maxRecDepth 20000 in
theorem zct_2 (L : Nat) (xs : Nat → Int32) (d : Nat) : zmD zP (d + 2) 2 [zr 2, zi 80] (zPW L xs 3 22 zqS_2 zqR_0 zqI_0) = some (none, (zPW L xs 4 102 zqS_3 zqR_1 zqI_0)) := by
  refine (show _ = zmE (zmD zP (d + 1)) zc_2 (0, [some (zr 2), some (zi 80)], [], (zPW L xs 3 22 zqS_2 zqR_0 zqI_0)) from rfl).trans ?_
  refine Eq.trans (zmE_pures (c' := (7, [some (zr 2), some (zi 80)], [zi 80, zi 0, zr 2], (zPW L xs 3 22 zqS_2 zqR_0 zqI_0))) 5 rfl) ?_
  refine Eq.trans (zmE_callSd (r := (some (zi 80), (zPW L xs 3 22 zqS_2 zqR_0 zqI_0))) (c' := (10, [some (zr 2), some (zi 80)], [zi 80, zr 2], (zPW L xs 3 22 zqS_2 zqR_0 zqI_0))) rfl rfl rfl (Nat.le_of_ble_eq_true rfl) (Nat.le_of_ble_eq_true rfl) (zct_3 L xs d) rfl) ?_
  refine Eq.trans (zmE_pures (c' := (15, [some (zr 2), some (zi 80)], [], (zPW L xs 4 102 zqS_3 zqR_1 zqI_0))) 2 rfl) ?_
  exact zmE_ret rfl
set_option maxRecDepth 20000 in
theorem zct_5 (L : Nat) (xs : Nat → Int32) (d : Nat) : zmD zP (d + 1) 3 [zi 0, zi 10] (zPW L xs 5 104 zqS_4 zqR_2 zqI_0) = some (some (zi 10), (zPW L xs 5 104 zqS_4 zqR_2 zqI_0)) := by
  refine (show _ = zmE (zmD zP (d + 0)) zc_3 (0, [some (zi 0), some (zi 10)], [], (zPW L xs 5 104 zqS_4 zqR_2 zqI_0)) from rfl).trans ?_
  refine Eq.trans (zmE_pures (c' := (10, [some (zi 0), some (zi 10)], [zi 10], (zPW L xs 5 104 zqS_4 zqR_2 zqI_0))) 4 rfl) ?_
  exact zmE_ret rfl
set_option maxRecDepth 20000 in
theorem zct_4 (L : Nat) (xs : Nat → Int32) (d : Nat) : zmD zP (d + 2) 2 [zr 4, zi 10] (zPW L xs 5 104 zqS_4 zqR_2 zqI_0) = some (none, (zPW L xs 6 114 zqS_5 zqR_3 zqI_0)) := by
  refine (show _ = zmE (zmD zP (d + 1)) zc_2 (0, [some (zr 4), some (zi 10)], [], (zPW L xs 5 104 zqS_4 zqR_2 zqI_0)) from rfl).trans ?_
  refine Eq.trans (zmE_pures (c' := (7, [some (zr 4), some (zi 10)], [zi 10, zi 0, zr 4], (zPW L xs 5 104 zqS_4 zqR_2 zqI_0))) 5 rfl) ?_
  refine Eq.trans (zmE_callSd (r := (some (zi 10), (zPW L xs 5 104 zqS_4 zqR_2 zqI_0))) (c' := (10, [some (zr 4), some (zi 10)], [zi 10, zr 4], (zPW L xs 5 104 zqS_4 zqR_2 zqI_0))) rfl rfl rfl (Nat.le_of_ble_eq_true rfl) (Nat.le_of_ble_eq_true rfl) (zct_5 L xs d) rfl) ?_
  refine Eq.trans (zmE_pures (c' := (15, [some (zr 4), some (zi 10)], [], (zPW L xs 6 114 zqS_5 zqR_3 zqI_0))) 2 rfl) ?_
  exact zmE_ret rfl
set_option maxRecDepth 20000 in
theorem zct_7 (L : Nat) (xs : Nat → Int32) (d : Nat) : zmD zP (d + 1) 3 [zi 0, zi 60] (zPW L xs 7 116 zqS_6 zqR_4 zqI_0) = some (some (zi 60), (zPW L xs 7 116 zqS_6 zqR_4 zqI_0)) := by
  refine (show _ = zmE (zmD zP (d + 0)) zc_3 (0, [some (zi 0), some (zi 60)], [], (zPW L xs 7 116 zqS_6 zqR_4 zqI_0)) from rfl).trans ?_
  refine Eq.trans (zmE_pures (c' := (10, [some (zi 0), some (zi 60)], [zi 60], (zPW L xs 7 116 zqS_6 zqR_4 zqI_0))) 4 rfl) ?_
  exact zmE_ret rfl
set_option maxRecDepth 20000 in
theorem zct_6 (L : Nat) (xs : Nat → Int32) (d : Nat) : zmD zP (d + 2) 2 [zr 6, zi 60] (zPW L xs 7 116 zqS_6 zqR_4 zqI_0) = some (none, (zPW L xs 8 176 zqS_7 zqR_5 zqI_0)) := by
  refine (show _ = zmE (zmD zP (d + 1)) zc_2 (0, [some (zr 6), some (zi 60)], [], (zPW L xs 7 116 zqS_6 zqR_4 zqI_0)) from rfl).trans ?_
  refine Eq.trans (zmE_pures (c' := (7, [some (zr 6), some (zi 60)], [zi 60, zi 0, zr 6], (zPW L xs 7 116 zqS_6 zqR_4 zqI_0))) 5 rfl) ?_
  refine Eq.trans (zmE_callSd (r := (some (zi 60), (zPW L xs 7 116 zqS_6 zqR_4 zqI_0))) (c' := (10, [some (zr 6), some (zi 60)], [zi 60, zr 6], (zPW L xs 7 116 zqS_6 zqR_4 zqI_0))) rfl rfl rfl (Nat.le_of_ble_eq_true rfl) (Nat.le_of_ble_eq_true rfl) (zct_7 L xs d) rfl) ?_
  refine Eq.trans (zmE_pures (c' := (15, [some (zr 6), some (zi 60)], [], (zPW L xs 8 176 zqS_7 zqR_5 zqI_0))) 2 rfl) ?_
  exact zmE_ret rfl
set_option maxRecDepth 20000 in
theorem zct_8 (L : Nat) (xs : Nat → Int32) (d : Nat) : zmD zP (d + 1) 4 [zr 8] (zPW L xs 9 180 zqS_8 zqR_7 zqI_0) = some (none, (zPW L xs 10 244 zqS_9 zqR_8 zqI_2)) := by
  refine (show _ = zmE (zmD zP (d + 0)) zc_4 (0, [some (zr 8)], [], (zPW L xs 9 180 zqS_8 zqR_7 zqI_0)) from rfl).trans ?_
  refine Eq.trans (zmE_pures (c' := (16, [some (zr 8)], [zr 9], (zPW L xs 10 244 zqS_9 zqR_8 zqI_0))) 8 rfl) ?_
  refine Eq.trans (zmE_pures (c' := (29, [some (zr 8)], [], (zPW L xs 10 244 zqS_9 zqR_8 zqI_1))) 8 rfl) ?_
  refine Eq.trans (zmE_pures (c' := (40, [some (zr 8)], [], (zPW L xs 10 244 zqS_9 zqR_8 zqI_2))) 6 rfl) ?_
  exact zmE_ret rfl
set_option maxRecDepth 20000 in
theorem zct_9 (L : Nat) (xs : Nat → Int32) (d : Nat) : zmD zP (d + 1) 5 [zr 10] (zPW L xs 11 247 zqS_10 zqR_9 zqI_2) = some (none, (zPW L xs 11 247 zqS_10 zqR_9 zqI_3)) := by
  refine (show _ = zmE (zmD zP (d + 0)) zc_5 (0, [some (zr 10)], [], (zPW L xs 11 247 zqS_10 zqR_9 zqI_2)) from rfl).trans ?_
  refine Eq.trans (zmE_pures (c' := (9, [some (zr 10)], [], (zPW L xs 11 247 zqS_10 zqR_9 zqI_3))) 5 rfl) ?_
  exact zmE_ret rfl
set_option maxRecDepth 20000 in
theorem zct_10 (L : Nat) (xs : Nat → Int32) (d : Nat) : zmD zP (d + 1) 6 [zr 11] (zPW L xs 12 250 zqS_11 zqR_10 zqI_3) = some (none, (zPW L xs 12 250 zqS_11 zqR_10 zqI_4)) := by
  refine (show _ = zmE (zmD zP (d + 0)) zc_6 (0, [some (zr 11)], [], (zPW L xs 12 250 zqS_11 zqR_10 zqI_3)) from rfl).trans ?_
  refine Eq.trans (zmE_pures (c' := (9, [some (zr 11)], [], (zPW L xs 12 250 zqS_11 zqR_10 zqI_4))) 5 rfl) ?_
  exact zmE_ret rfl
set_option maxRecDepth 20000 in
theorem zct_11 (L : Nat) (xs : Nat → Int32) (d : Nat) : zmD zP (d + 1) 6 [zr 12] (zPW L xs 13 253 zqS_12 zqR_11 zqI_4) = some (none, (zPW L xs 13 253 zqS_12 zqR_11 zqI_5)) := by
  refine (show _ = zmE (zmD zP (d + 0)) zc_6 (0, [some (zr 12)], [], (zPW L xs 13 253 zqS_12 zqR_11 zqI_4)) from rfl).trans ?_
  refine Eq.trans (zmE_pures (c' := (9, [some (zr 12)], [], (zPW L xs 13 253 zqS_12 zqR_11 zqI_5))) 5 rfl) ?_
  exact zmE_ret rfl
set_option maxRecDepth 20000 in
theorem zct_13 (L : Nat) (xs : Nat → Int32) (d : Nat) : zmD zP (d + 1) 3 [zi 0, zi 640] (zPW L xs 14 257 zqS_13 zqR_12 zqI_5) = some (some (zi 640), (zPW L xs 14 257 zqS_13 zqR_12 zqI_5)) := by
  refine (show _ = zmE (zmD zP (d + 0)) zc_3 (0, [some (zi 0), some (zi 640)], [], (zPW L xs 14 257 zqS_13 zqR_12 zqI_5)) from rfl).trans ?_
  refine Eq.trans (zmE_pures (c' := (10, [some (zi 0), some (zi 640)], [zi 640], (zPW L xs 14 257 zqS_13 zqR_12 zqI_5))) 4 rfl) ?_
  exact zmE_ret rfl
set_option maxRecDepth 20000 in
theorem zct_12 (L : Nat) (xs : Nat → Int32) (d : Nat) : zmD zP (d + 2) 7 [zr 13, zi 640] (zPW L xs 14 257 zqS_13 zqR_12 zqI_5) = some (none, (zPW L xs 17 2177 zqS_15 zqR_14 zqI_5)) := by
  refine (show _ = zmE (zmD zP (d + 1)) zc_7 (0, [some (zr 13), some (zi 640), none], [], (zPW L xs 14 257 zqS_13 zqR_12 zqI_5)) from rfl).trans ?_
  refine Eq.trans (zmE_pures (c' := (6, [some (zr 13), some (zi 640), none], [zi 640, zi 0], (zPW L xs 14 257 zqS_13 zqR_12 zqI_5))) 4 rfl) ?_
  refine Eq.trans (zmE_callSd (r := (some (zi 640), (zPW L xs 14 257 zqS_13 zqR_12 zqI_5))) (c' := (9, [some (zr 13), some (zi 640), none], [zi 640], (zPW L xs 14 257 zqS_13 zqR_12 zqI_5))) rfl rfl rfl (Nat.le_of_ble_eq_true rfl) (Nat.le_of_ble_eq_true rfl) (zct_13 L xs d) rfl) ?_
  refine Eq.trans (zmE_pures (c' := (21, [some (zr 13), some (zi 640), some (zi 640)], [zr 15, zr 13], (zPW L xs 16 1537 zqS_14 zqR_13 zqI_5))) 8 rfl) ?_
  refine Eq.trans (zmE_pures (c' := (31, [some (zr 13), some (zi 640), some (zi 640)], [], (zPW L xs 17 2177 zqS_15 zqR_14 zqI_5))) 5 rfl) ?_
  exact zmE_ret rfl
set_option maxRecDepth 20000 in
theorem zct_14 (L : Nat) (xs : Nat → Int32) (d : Nat) : zmD zP (d + 1) 8 [zr 17] (zPW L xs 18 2178 zqS_16 zqR_15 zqI_5) = some (none, (zPW L xs 19 5250 zqS_17 zqR_16 zqI_5)) := by
  refine (show _ = zmE (zmD zP (d + 0)) zc_8 (0, [some (zr 17)], [], (zPW L xs 18 2178 zqS_16 zqR_15 zqI_5)) from rfl).trans ?_
  refine Eq.trans (zmE_pures (c' := (13, [some (zr 17)], [], (zPW L xs 19 5250 zqS_17 zqR_16 zqI_5))) 6 rfl) ?_
  exact zmE_ret rfl
set_option maxRecDepth 20000 in
theorem zct_15 (L : Nat) (xs : Nat → Int32) (d : Nat) : zmD zP (d + 1) 9 [zr 20] (zPW L xs 21 5262 zqS_19 zqR_18 zqI_9) = some (none, (zPW L xs 23 6594 zqS_21 zqR_20 zqI_9)) := by
  refine (show _ = zmE (zmD zP (d + 0)) zc_9 (0, [some (zr 20)], [], (zPW L xs 21 5262 zqS_19 zqR_18 zqI_9)) from rfl).trans ?_
  refine Eq.trans (zmE_pures (c' := (17, [some (zr 20)], [zi 666, zr 20], (zPW L xs 22 5928 zqS_20 zqR_19 zqI_9))) 8 rfl) ?_
  refine Eq.trans (zmE_pures (c' := (22, [some (zr 20)], [], (zPW L xs 23 6594 zqS_21 zqR_20 zqI_9))) 2 rfl) ?_
  exact zmE_ret rfl
set_option maxRecDepth 20000 in
theorem zct_17 (L : Nat) (xs : Nat → Int32) (d : Nat) : zmD zP (d + 1) 8 [zr 24] (zPW L xs 25 6607 zqS_23 zqR_21 zqI_9) = some (none, (zPW L xs 26 9679 zqS_24 zqR_22 zqI_9)) := by
  refine (show _ = zmE (zmD zP (d + 0)) zc_8 (0, [some (zr 24)], [], (zPW L xs 25 6607 zqS_23 zqR_21 zqI_9)) from rfl).trans ?_
  refine Eq.trans (zmE_pures (c' := (13, [some (zr 24)], [], (zPW L xs 26 9679 zqS_24 zqR_22 zqI_9))) 6 rfl) ?_
  exact zmE_ret rfl
set_option maxRecDepth 20000 in
theorem zct_18 (L : Nat) (xs : Nat → Int32) (d : Nat) : zmD zP (d + 1) 6 [zr 27] (zPW L xs 28 9688 zqS_25 zqR_24 zqI_9) = some (none, (zPW L xs 28 9688 zqS_25 zqR_24 zqI_10)) := by
  refine (show _ = zmE (zmD zP (d + 0)) zc_6 (0, [some (zr 27)], [], (zPW L xs 28 9688 zqS_25 zqR_24 zqI_9)) from rfl).trans ?_
  refine Eq.trans (zmE_pures (c' := (9, [some (zr 27)], [], (zPW L xs 28 9688 zqS_25 zqR_24 zqI_10))) 5 rfl) ?_
  exact zmE_ret rfl
set_option maxRecDepth 20000 in
theorem zct_19 (L : Nat) (xs : Nat → Int32) (d : Nat) : zmD zP (d + 1) 4 [zr 28] (zPW L xs 29 9692 zqS_26 zqR_25 zqI_10) = some (none, (zPW L xs 30 9756 zqS_27 zqR_26 zqI_12)) := by
  refine (show _ = zmE (zmD zP (d + 0)) zc_4 (0, [some (zr 28)], [], (zPW L xs 29 9692 zqS_26 zqR_25 zqI_10)) from rfl).trans ?_
  refine Eq.trans (zmE_pures (c' := (16, [some (zr 28)], [zr 29], (zPW L xs 30 9756 zqS_27 zqR_26 zqI_10))) 8 rfl) ?_
  refine Eq.trans (zmE_pures (c' := (29, [some (zr 28)], [], (zPW L xs 30 9756 zqS_27 zqR_26 zqI_11))) 8 rfl) ?_
  refine Eq.trans (zmE_pures (c' := (40, [some (zr 28)], [], (zPW L xs 30 9756 zqS_27 zqR_26 zqI_12))) 6 rfl) ?_
  exact zmE_ret rfl
set_option maxRecDepth 20000 in
theorem zct_20 (L : Nat) (xs : Nat → Int32) (d : Nat) : zmD zP (d + 1) 4 [zr 30] (zPW L xs 31 9760 zqS_28 zqR_27 zqI_12) = some (none, (zPW L xs 32 9824 zqS_29 zqR_28 zqI_14)) := by
  refine (show _ = zmE (zmD zP (d + 0)) zc_4 (0, [some (zr 30)], [], (zPW L xs 31 9760 zqS_28 zqR_27 zqI_12)) from rfl).trans ?_
  refine Eq.trans (zmE_pures (c' := (16, [some (zr 30)], [zr 31], (zPW L xs 32 9824 zqS_29 zqR_28 zqI_12))) 8 rfl) ?_
  refine Eq.trans (zmE_pures (c' := (29, [some (zr 30)], [], (zPW L xs 32 9824 zqS_29 zqR_28 zqI_13))) 8 rfl) ?_
  refine Eq.trans (zmE_pures (c' := (40, [some (zr 30)], [], (zPW L xs 32 9824 zqS_29 zqR_28 zqI_14))) 6 rfl) ?_
  exact zmE_ret rfl
set_option maxRecDepth 20000 in
theorem zct_22 (L : Nat) (xs : Nat → Int32) (d : Nat) : zmD zP (d + 1) 3 [zi 0, zi 640] (zPW L xs 33 9828 zqS_30 zqR_29 zqI_14) = some (some (zi 640), (zPW L xs 33 9828 zqS_30 zqR_29 zqI_14)) := by
  refine (show _ = zmE (zmD zP (d + 0)) zc_3 (0, [some (zi 0), some (zi 640)], [], (zPW L xs 33 9828 zqS_30 zqR_29 zqI_14)) from rfl).trans ?_
  refine Eq.trans (zmE_pures (c' := (10, [some (zi 0), some (zi 640)], [zi 640], (zPW L xs 33 9828 zqS_30 zqR_29 zqI_14))) 4 rfl) ?_
  exact zmE_ret rfl
set_option maxRecDepth 20000 in
theorem zct_21 (L : Nat) (xs : Nat → Int32) (d : Nat) : zmD zP (d + 2) 7 [zr 32, zi 640] (zPW L xs 33 9828 zqS_30 zqR_29 zqI_14) = some (none, (zPW L xs 36 11748 zqS_32 zqR_31 zqI_14)) := by
  refine (show _ = zmE (zmD zP (d + 1)) zc_7 (0, [some (zr 32), some (zi 640), none], [], (zPW L xs 33 9828 zqS_30 zqR_29 zqI_14)) from rfl).trans ?_
  refine Eq.trans (zmE_pures (c' := (6, [some (zr 32), some (zi 640), none], [zi 640, zi 0], (zPW L xs 33 9828 zqS_30 zqR_29 zqI_14))) 4 rfl) ?_
  refine Eq.trans (zmE_callSd (r := (some (zi 640), (zPW L xs 33 9828 zqS_30 zqR_29 zqI_14))) (c' := (9, [some (zr 32), some (zi 640), none], [zi 640], (zPW L xs 33 9828 zqS_30 zqR_29 zqI_14))) rfl rfl rfl (Nat.le_of_ble_eq_true rfl) (Nat.le_of_ble_eq_true rfl) (zct_22 L xs d) rfl) ?_
  refine Eq.trans (zmE_pures (c' := (21, [some (zr 32), some (zi 640), some (zi 640)], [zr 34, zr 32], (zPW L xs 35 11108 zqS_31 zqR_30 zqI_14))) 8 rfl) ?_
  refine Eq.trans (zmE_pures (c' := (31, [some (zr 32), some (zi 640), some (zi 640)], [], (zPW L xs 36 11748 zqS_32 zqR_31 zqI_14))) 5 rfl) ?_
  exact zmE_ret rfl
set_option maxRecDepth 20000 in
theorem zct_24 (L : Nat) (xs : Nat → Int32) (d : Nat) : zmD zP (d + 1) 3 [zi 0, zi 640] (zPW L xs 37 11752 zqS_33 zqR_32 zqI_14) = some (some (zi 640), (zPW L xs 37 11752 zqS_33 zqR_32 zqI_14)) := by
  refine (show _ = zmE (zmD zP (d + 0)) zc_3 (0, [some (zi 0), some (zi 640)], [], (zPW L xs 37 11752 zqS_33 zqR_32 zqI_14)) from rfl).trans ?_
  refine Eq.trans (zmE_pures (c' := (10, [some (zi 0), some (zi 640)], [zi 640], (zPW L xs 37 11752 zqS_33 zqR_32 zqI_14))) 4 rfl) ?_
  exact zmE_ret rfl
set_option maxRecDepth 20000 in
theorem zct_23 (L : Nat) (xs : Nat → Int32) (d : Nat) : zmD zP (d + 2) 7 [zr 36, zi 640] (zPW L xs 37 11752 zqS_33 zqR_32 zqI_14) = some (none, (zPW L xs 40 13672 zqS_35 zqR_34 zqI_14)) := by
  refine (show _ = zmE (zmD zP (d + 1)) zc_7 (0, [some (zr 36), some (zi 640), none], [], (zPW L xs 37 11752 zqS_33 zqR_32 zqI_14)) from rfl).trans ?_
  refine Eq.trans (zmE_pures (c' := (6, [some (zr 36), some (zi 640), none], [zi 640, zi 0], (zPW L xs 37 11752 zqS_33 zqR_32 zqI_14))) 4 rfl) ?_
  refine Eq.trans (zmE_callSd (r := (some (zi 640), (zPW L xs 37 11752 zqS_33 zqR_32 zqI_14))) (c' := (9, [some (zr 36), some (zi 640), none], [zi 640], (zPW L xs 37 11752 zqS_33 zqR_32 zqI_14))) rfl rfl rfl (Nat.le_of_ble_eq_true rfl) (Nat.le_of_ble_eq_true rfl) (zct_24 L xs d) rfl) ?_
  refine Eq.trans (zmE_pures (c' := (21, [some (zr 36), some (zi 640), some (zi 640)], [zr 38, zr 36], (zPW L xs 39 13032 zqS_34 zqR_33 zqI_14))) 8 rfl) ?_
  refine Eq.trans (zmE_pures (c' := (31, [some (zr 36), some (zi 640), some (zi 640)], [], (zPW L xs 40 13672 zqS_35 zqR_34 zqI_14))) 5 rfl) ?_
  exact zmE_ret rfl
set_option maxRecDepth 20000 in
theorem zct_16_0 (L : Nat) (xs : Nat → Int32) (d : Nat) : zmE (zmD zP (d + 2)) zc_10 (0, [some (zr 23)], [], (zPW L xs 24 6606 zqS_22 zqR_21 zqI_9)) = zmE (zmD zP (d + 2)) zc_10 (45, [some (zr 23)], [], (zPW L xs 30 9756 zqS_27 zqR_27 zqI_12)) := by
  refine Eq.trans (zmE_pures (c' := (9, [some (zr 23)], [zr 24, zr 24, zr 23], (zPW L xs 25 6607 zqS_23 zqR_21 zqI_9))) 5 rfl) ?_
  refine Eq.trans (zmE_callVd (r := (none, (zPW L xs 26 9679 zqS_24 zqR_22 zqI_9))) (c' := (12, [some (zr 23)], [zr 24, zr 23], (zPW L xs 26 9679 zqS_24 zqR_22 zqI_9))) rfl rfl rfl rfl rfl (Nat.le_of_ble_eq_true rfl) (Nat.le_of_ble_eq_true rfl) (zct_17 L xs (d + 1)) rfl) ?_
  refine Eq.trans (zmE_pures (c' := (15, [some (zr 23)], [], (zPW L xs 26 9679 zqS_24 zqR_23 zqI_9))) 1 rfl) ?_
  refine Eq.trans (zmE_pures (c' := (27, [some (zr 23)], [zr 27, zr 23], (zPW L xs 28 9688 zqS_25 zqR_24 zqI_9))) 6 rfl) ?_
  refine Eq.trans (zmE_pures (c' := (28, [some (zr 23)], [zr 27, zr 27, zr 23], (zPW L xs 28 9688 zqS_25 zqR_24 zqI_9))) 1 rfl) ?_
  refine Eq.trans (zmE_callVd (r := (none, (zPW L xs 28 9688 zqS_25 zqR_24 zqI_10))) (c' := (31, [some (zr 23)], [zr 27, zr 23], (zPW L xs 28 9688 zqS_25 zqR_24 zqI_10))) rfl rfl rfl rfl rfl (Nat.le_of_ble_eq_true rfl) (Nat.le_of_ble_eq_true rfl) (zct_18 L xs (d + 1)) rfl) ?_
  refine Eq.trans (zmE_pures (c' := (38, [some (zr 23)], [zr 28, zr 23], (zPW L xs 29 9692 zqS_26 zqR_25 zqI_10))) 3 rfl) ?_
  refine Eq.trans (zmE_pures (c' := (39, [some (zr 23)], [zr 28, zr 28, zr 23], (zPW L xs 29 9692 zqS_26 zqR_25 zqI_10))) 1 rfl) ?_
  refine Eq.trans (zmE_callVd (r := (none, (zPW L xs 30 9756 zqS_27 zqR_26 zqI_12))) (c' := (42, [some (zr 23)], [zr 28, zr 23], (zPW L xs 30 9756 zqS_27 zqR_26 zqI_12))) rfl rfl rfl rfl rfl (Nat.le_of_ble_eq_true rfl) (Nat.le_of_ble_eq_true rfl) (zct_19 L xs (d + 1)) rfl) ?_
  refine Eq.trans (zmE_pures (c' := (45, [some (zr 23)], [], (zPW L xs 30 9756 zqS_27 zqR_27 zqI_12))) 1 rfl) ?_
  rfl
set_option maxRecDepth 20000 in
theorem zct_16_1 (L : Nat) (xs : Nat → Int32) (d : Nat) : zmE (zmD zP (d + 2)) zc_10 (45, [some (zr 23)], [], (zPW L xs 30 9756 zqS_27 zqR_27 zqI_12)) = zmE (zmD zP (d + 2)) zc_10 (97, [some (zr 23)], [zr 41, zr 23], (zPW L xs 42 13690 zqS_36 zqR_36 zqI_14)) := by
  refine Eq.trans (zmE_pures (c' := (50, [some (zr 23)], [zr 30, zr 30, zr 23], (zPW L xs 31 9760 zqS_28 zqR_27 zqI_12))) 3 rfl) ?_
  refine Eq.trans (zmE_callVd (r := (none, (zPW L xs 32 9824 zqS_29 zqR_28 zqI_14))) (c' := (53, [some (zr 23)], [zr 30, zr 23], (zPW L xs 32 9824 zqS_29 zqR_28 zqI_14))) rfl rfl rfl rfl rfl (Nat.le_of_ble_eq_true rfl) (Nat.le_of_ble_eq_true rfl) (zct_20 L xs (d + 1)) rfl) ?_
  refine Eq.trans (zmE_pures (c' := (56, [some (zr 23)], [], (zPW L xs 32 9824 zqS_29 zqR_29 zqI_14))) 1 rfl) ?_
  refine Eq.trans (zmE_pures (c' := (64, [some (zr 23)], [zi 640, zr 32, zr 32, zr 23], (zPW L xs 33 9828 zqS_30 zqR_29 zqI_14))) 4 rfl) ?_
  refine Eq.trans (zmE_callVd (r := (none, (zPW L xs 36 11748 zqS_32 zqR_31 zqI_14))) (c' := (67, [some (zr 23)], [zr 32, zr 23], (zPW L xs 36 11748 zqS_32 zqR_31 zqI_14))) rfl rfl rfl rfl rfl (Nat.le_of_ble_eq_true rfl) (Nat.le_of_ble_eq_true rfl) (zct_21 L xs d) rfl) ?_
  refine Eq.trans (zmE_pures (c' := (70, [some (zr 23)], [], (zPW L xs 36 11748 zqS_32 zqR_32 zqI_14))) 1 rfl) ?_
  refine Eq.trans (zmE_pures (c' := (78, [some (zr 23)], [zi 640, zr 36, zr 36, zr 23], (zPW L xs 37 11752 zqS_33 zqR_32 zqI_14))) 4 rfl) ?_
  refine Eq.trans (zmE_callVd (r := (none, (zPW L xs 40 13672 zqS_35 zqR_34 zqI_14))) (c' := (81, [some (zr 23)], [zr 36, zr 23], (zPW L xs 40 13672 zqS_35 zqR_34 zqI_14))) rfl rfl rfl rfl rfl (Nat.le_of_ble_eq_true rfl) (Nat.le_of_ble_eq_true rfl) (zct_23 L xs d) rfl) ?_
  refine Eq.trans (zmE_pures (c' := (84, [some (zr 23)], [], (zPW L xs 40 13672 zqS_35 zqR_35 zqI_14))) 1 rfl) ?_
  refine Eq.trans (zmE_pures (c' := (97, [some (zr 23)], [zr 41, zr 23], (zPW L xs 42 13690 zqS_36 zqR_36 zqI_14))) 7 rfl) ?_
  rfl
set_option maxRecDepth 20000 in
theorem zct_16 (L : Nat) (xs : Nat → Int32) (d : Nat) : zmD zP (d + 3) 10 [zr 23] (zPW L xs 24 6606 zqS_22 zqR_21 zqI_9) = some (none, (zPW L xs 42 13690 zqS_36 zqR_37 zqI_14)) := by
  refine (show _ = zmE (zmD zP (d + 2)) zc_10 (0, [some (zr 23)], [], (zPW L xs 24 6606 zqS_22 zqR_21 zqI_9)) from rfl).trans ?_
  refine Eq.trans (zct_16_0 L xs d) ?_
  refine Eq.trans (zct_16_1 L xs d) ?_
  refine Eq.trans (zmE_pures (c' := (100, [some (zr 23)], [], (zPW L xs 42 13690 zqS_36 zqR_37 zqI_14))) 1 rfl) ?_
  exact zmE_ret rfl
set_option maxRecDepth 20000 in
theorem zct_26 (L : Nat) (xs : Nat → Int32) (d : Nat) : zmD zP (d + 1) 6 [zr 44] (zPW L xs 45 13712 zqS_39 zqR_39 zqI_14) = some (none, (zPW L xs 45 13712 zqS_39 zqR_39 zqI_15)) := by
  refine (show _ = zmE (zmD zP (d + 0)) zc_6 (0, [some (zr 44)], [], (zPW L xs 45 13712 zqS_39 zqR_39 zqI_14)) from rfl).trans ?_
  refine Eq.trans (zmE_pures (c' := (9, [some (zr 44)], [], (zPW L xs 45 13712 zqS_39 zqR_39 zqI_15))) 5 rfl) ?_
  exact zmE_ret rfl
set_option maxRecDepth 20000 in
theorem zct_27 (L : Nat) (xs : Nat → Int32) (d : Nat) : zmD zP (d + 1) 6 [zr 45] (zPW L xs 46 13715 zqS_40 zqR_40 zqI_15) = some (none, (zPW L xs 46 13715 zqS_40 zqR_40 zqI_16)) := by
  refine (show _ = zmE (zmD zP (d + 0)) zc_6 (0, [some (zr 45)], [], (zPW L xs 46 13715 zqS_40 zqR_40 zqI_15)) from rfl).trans ?_
  refine Eq.trans (zmE_pures (c' := (9, [some (zr 45)], [], (zPW L xs 46 13715 zqS_40 zqR_40 zqI_16))) 5 rfl) ?_
  exact zmE_ret rfl
set_option maxRecDepth 20000 in
theorem zct_28 (L : Nat) (xs : Nat → Int32) (d : Nat) : zmD zP (d + 1) 6 [zr 46] (zPW L xs 47 13718 zqS_41 zqR_41 zqI_16) = some (none, (zPW L xs 47 13718 zqS_41 zqR_41 zqI_17)) := by
  refine (show _ = zmE (zmD zP (d + 0)) zc_6 (0, [some (zr 46)], [], (zPW L xs 47 13718 zqS_41 zqR_41 zqI_16)) from rfl).trans ?_
  refine Eq.trans (zmE_pures (c' := (9, [some (zr 46)], [], (zPW L xs 47 13718 zqS_41 zqR_41 zqI_17))) 5 rfl) ?_
  exact zmE_ret rfl
set_option maxRecDepth 20000 in
theorem zct_29 (L : Nat) (xs : Nat → Int32) (d : Nat) : zmD zP (d + 1) 6 [zr 47] (zPW L xs 48 13721 zqS_42 zqR_42 zqI_17) = some (none, (zPW L xs 48 13721 zqS_42 zqR_42 zqI_18)) := by
  refine (show _ = zmE (zmD zP (d + 0)) zc_6 (0, [some (zr 47)], [], (zPW L xs 48 13721 zqS_42 zqR_42 zqI_17)) from rfl).trans ?_
  refine Eq.trans (zmE_pures (c' := (9, [some (zr 47)], [], (zPW L xs 48 13721 zqS_42 zqR_42 zqI_18))) 5 rfl) ?_
  exact zmE_ret rfl
set_option maxRecDepth 20000 in
theorem zct_30 (L : Nat) (xs : Nat → Int32) (d : Nat) : zmD zP (d + 1) 6 [zr 48] (zPW L xs 49 13724 zqS_43 zqR_43 zqI_18) = some (none, (zPW L xs 49 13724 zqS_43 zqR_43 zqI_19)) := by
  refine (show _ = zmE (zmD zP (d + 0)) zc_6 (0, [some (zr 48)], [], (zPW L xs 49 13724 zqS_43 zqR_43 zqI_18)) from rfl).trans ?_
  refine Eq.trans (zmE_pures (c' := (9, [some (zr 48)], [], (zPW L xs 49 13724 zqS_43 zqR_43 zqI_19))) 5 rfl) ?_
  exact zmE_ret rfl
set_option maxRecDepth 20000 in
theorem zct_31 (L : Nat) (xs : Nat → Int32) (d : Nat) : zmD zP (d + 1) 6 [zr 49] (zPW L xs 50 13727 zqS_44 zqR_44 zqI_19) = some (none, (zPW L xs 50 13727 zqS_44 zqR_44 zqI_20)) := by
  refine (show _ = zmE (zmD zP (d + 0)) zc_6 (0, [some (zr 49)], [], (zPW L xs 50 13727 zqS_44 zqR_44 zqI_19)) from rfl).trans ?_
  refine Eq.trans (zmE_pures (c' := (9, [some (zr 49)], [], (zPW L xs 50 13727 zqS_44 zqR_44 zqI_20))) 5 rfl) ?_
  exact zmE_ret rfl
set_option maxRecDepth 20000 in
theorem zct_32 (L : Nat) (xs : Nat → Int32) (d : Nat) : zmD zP (d + 1) 6 [zr 50] (zPW L xs 51 13730 zqS_45 zqR_45 zqI_20) = some (none, (zPW L xs 51 13730 zqS_45 zqR_45 zqI_21)) := by
  refine (show _ = zmE (zmD zP (d + 0)) zc_6 (0, [some (zr 50)], [], (zPW L xs 51 13730 zqS_45 zqR_45 zqI_20)) from rfl).trans ?_
  refine Eq.trans (zmE_pures (c' := (9, [some (zr 50)], [], (zPW L xs 51 13730 zqS_45 zqR_45 zqI_21))) 5 rfl) ?_
  exact zmE_ret rfl
set_option maxRecDepth 20000 in
theorem zct_33 (L : Nat) (xs : Nat → Int32) (d : Nat) : zmD zP (d + 1) 6 [zr 51] (zPW L xs 52 13733 zqS_46 zqR_46 zqI_21) = some (none, (zPW L xs 52 13733 zqS_46 zqR_46 zqI_22)) := by
  refine (show _ = zmE (zmD zP (d + 0)) zc_6 (0, [some (zr 51)], [], (zPW L xs 52 13733 zqS_46 zqR_46 zqI_21)) from rfl).trans ?_
  refine Eq.trans (zmE_pures (c' := (9, [some (zr 51)], [], (zPW L xs 52 13733 zqS_46 zqR_46 zqI_22))) 5 rfl) ?_
  exact zmE_ret rfl
set_option maxRecDepth 20000 in
theorem zct_34 (L : Nat) (xs : Nat → Int32) (d : Nat) : zmD zP (d + 1) 6 [zr 52] (zPW L xs 53 13736 zqS_47 zqR_47 zqI_22) = some (none, (zPW L xs 53 13736 zqS_47 zqR_47 zqI_23)) := by
  refine (show _ = zmE (zmD zP (d + 0)) zc_6 (0, [some (zr 52)], [], (zPW L xs 53 13736 zqS_47 zqR_47 zqI_22)) from rfl).trans ?_
  refine Eq.trans (zmE_pures (c' := (9, [some (zr 52)], [], (zPW L xs 53 13736 zqS_47 zqR_47 zqI_23))) 5 rfl) ?_
  exact zmE_ret rfl
set_option maxRecDepth 20000 in
theorem zct_35 (L : Nat) (xs : Nat → Int32) (d : Nat) : zmD zP (d + 1) 6 [zr 53] (zPW L xs 54 13739 zqS_48 zqR_48 zqI_23) = some (none, (zPW L xs 54 13739 zqS_48 zqR_48 zqI_24)) := by
  refine (show _ = zmE (zmD zP (d + 0)) zc_6 (0, [some (zr 53)], [], (zPW L xs 54 13739 zqS_48 zqR_48 zqI_23)) from rfl).trans ?_
  refine Eq.trans (zmE_pures (c' := (9, [some (zr 53)], [], (zPW L xs 54 13739 zqS_48 zqR_48 zqI_24))) 5 rfl) ?_
  exact zmE_ret rfl
set_option maxRecDepth 20000 in
theorem zct_36 (L : Nat) (xs : Nat → Int32) (d : Nat) : zmD zP (d + 1) 6 [zr 54] (zPW L xs 55 13742 zqS_49 zqR_49 zqI_24) = some (none, (zPW L xs 55 13742 zqS_49 zqR_49 zqI_25)) := by
  refine (show _ = zmE (zmD zP (d + 0)) zc_6 (0, [some (zr 54)], [], (zPW L xs 55 13742 zqS_49 zqR_49 zqI_24)) from rfl).trans ?_
  refine Eq.trans (zmE_pures (c' := (9, [some (zr 54)], [], (zPW L xs 55 13742 zqS_49 zqR_49 zqI_25))) 5 rfl) ?_
  exact zmE_ret rfl
set_option maxRecDepth 20000 in
theorem zct_37 (L : Nat) (xs : Nat → Int32) (d : Nat) : zmD zP (d + 1) 6 [zr 55] (zPW L xs 56 13745 zqS_50 zqR_50 zqI_25) = some (none, (zPW L xs 56 13745 zqS_50 zqR_50 zqI_26)) := by
  refine (show _ = zmE (zmD zP (d + 0)) zc_6 (0, [some (zr 55)], [], (zPW L xs 56 13745 zqS_50 zqR_50 zqI_25)) from rfl).trans ?_
  refine Eq.trans (zmE_pures (c' := (9, [some (zr 55)], [], (zPW L xs 56 13745 zqS_50 zqR_50 zqI_26))) 5 rfl) ?_
  exact zmE_ret rfl
set_option maxRecDepth 20000 in
theorem zct_38 (L : Nat) (xs : Nat → Int32) (d : Nat) : zmD zP (d + 1) 4 [zr 58] (zPW L xs 59 13773 zqS_53 zqR_52 zqI_26) = some (none, (zPW L xs 60 13837 zqS_54 zqR_53 zqI_28)) := by
  refine (show _ = zmE (zmD zP (d + 0)) zc_4 (0, [some (zr 58)], [], (zPW L xs 59 13773 zqS_53 zqR_52 zqI_26)) from rfl).trans ?_
  refine Eq.trans (zmE_pures (c' := (16, [some (zr 58)], [zr 59], (zPW L xs 60 13837 zqS_54 zqR_53 zqI_26))) 8 rfl) ?_
  refine Eq.trans (zmE_pures (c' := (29, [some (zr 58)], [], (zPW L xs 60 13837 zqS_54 zqR_53 zqI_27))) 8 rfl) ?_
  refine Eq.trans (zmE_pures (c' := (40, [some (zr 58)], [], (zPW L xs 60 13837 zqS_54 zqR_53 zqI_28))) 6 rfl) ?_
  exact zmE_ret rfl
set_option maxRecDepth 20000 in
theorem zct_40 (L : Nat) (xs : Nat → Int32) (d : Nat) : zmD zP (d + 1) 3 [zi 0, zi 2] (zPW L xs 61 13841 zqS_55 zqR_54 zqI_28) = some (some (zi 2), (zPW L xs 61 13841 zqS_55 zqR_54 zqI_28)) := by
  refine (show _ = zmE (zmD zP (d + 0)) zc_3 (0, [some (zi 0), some (zi 2)], [], (zPW L xs 61 13841 zqS_55 zqR_54 zqI_28)) from rfl).trans ?_
  refine Eq.trans (zmE_pures (c' := (10, [some (zi 0), some (zi 2)], [zi 2], (zPW L xs 61 13841 zqS_55 zqR_54 zqI_28))) 4 rfl) ?_
  exact zmE_ret rfl
set_option maxRecDepth 20000 in
theorem zct_39 (L : Nat) (xs : Nat → Int32) (d : Nat) : zmD zP (d + 2) 7 [zr 60, zi 2] (zPW L xs 61 13841 zqS_55 zqR_54 zqI_28) = some (none, (zPW L xs 64 13847 zqS_57 zqR_56 zqI_28)) := by
  refine (show _ = zmE (zmD zP (d + 1)) zc_7 (0, [some (zr 60), some (zi 2), none], [], (zPW L xs 61 13841 zqS_55 zqR_54 zqI_28)) from rfl).trans ?_
  refine Eq.trans (zmE_pures (c' := (6, [some (zr 60), some (zi 2), none], [zi 2, zi 0], (zPW L xs 61 13841 zqS_55 zqR_54 zqI_28))) 4 rfl) ?_
  refine Eq.trans (zmE_callSd (r := (some (zi 2), (zPW L xs 61 13841 zqS_55 zqR_54 zqI_28))) (c' := (9, [some (zr 60), some (zi 2), none], [zi 2], (zPW L xs 61 13841 zqS_55 zqR_54 zqI_28))) rfl rfl rfl (Nat.le_of_ble_eq_true rfl) (Nat.le_of_ble_eq_true rfl) (zct_40 L xs d) rfl) ?_
  refine Eq.trans (zmE_pures (c' := (21, [some (zr 60), some (zi 2), some (zi 2)], [zr 62, zr 60], (zPW L xs 63 13845 zqS_56 zqR_55 zqI_28))) 8 rfl) ?_
  refine Eq.trans (zmE_pures (c' := (31, [some (zr 60), some (zi 2), some (zi 2)], [], (zPW L xs 64 13847 zqS_57 zqR_56 zqI_28))) 5 rfl) ?_
  exact zmE_ret rfl
set_option maxRecDepth 20000 in
theorem zct_25_0 (L : Nat) (xs : Nat → Int32) (d : Nat) : zmE (zmD zP (d + 2)) zc_11 (0, [some (zr 42), none], [], (zPW L xs 43 13697 zqS_37 zqR_38 zqI_14)) = zmE (zmD zP (d + 2)) zc_11 (33, [some (zr 42), some (zi 2)], [zr 46, zi 2, zr 43], (zPW L xs 47 13718 zqS_41 zqR_41 zqI_17)) := by
  refine Eq.trans (zmE_pures (c' := (15, [some (zr 42), some (zi 0)], [], (zPW L xs 44 13709 zqS_38 zqR_39 zqI_14))) 8 rfl) ?_
  refine Eq.trans (zmE_pures (c' := (30, [some (zr 42), some (zi 0)], [zr 44, zr 44, zi 0, zr 43], (zPW L xs 45 13712 zqS_39 zqR_39 zqI_14))) 8 rfl) ?_
  refine Eq.trans (zmE_callVd (r := (none, (zPW L xs 45 13712 zqS_39 zqR_39 zqI_15))) (c' := (33, [some (zr 42), some (zi 0)], [zr 44, zi 0, zr 43], (zPW L xs 45 13712 zqS_39 zqR_39 zqI_15))) rfl rfl rfl rfl rfl (Nat.le_of_ble_eq_true rfl) (Nat.le_of_ble_eq_true rfl) (zct_26 L xs (d + 1)) rfl) ?_
  refine Eq.trans (zmE_pures (c' := (25, [some (zr 42), some (zi 1)], [zr 43], (zPW L xs 45 13712 zqS_39 zqR_40 zqI_15))) 8 rfl) ?_
  refine Eq.trans (zmE_pures (c' := (30, [some (zr 42), some (zi 1)], [zr 45, zr 45, zi 1, zr 43], (zPW L xs 46 13715 zqS_40 zqR_40 zqI_15))) 3 rfl) ?_
  refine Eq.trans (zmE_callVd (r := (none, (zPW L xs 46 13715 zqS_40 zqR_40 zqI_16))) (c' := (33, [some (zr 42), some (zi 1)], [zr 45, zi 1, zr 43], (zPW L xs 46 13715 zqS_40 zqR_40 zqI_16))) rfl rfl rfl rfl rfl (Nat.le_of_ble_eq_true rfl) (Nat.le_of_ble_eq_true rfl) (zct_27 L xs (d + 1)) rfl) ?_
  refine Eq.trans (zmE_pures (c' := (34, [some (zr 42), some (zi 1)], [], (zPW L xs 46 13715 zqS_40 zqR_41 zqI_16))) 1 rfl) ?_
  refine Eq.trans (zmE_pures (c' := (26, [some (zr 42), some (zi 2)], [zi 2, zr 43], (zPW L xs 46 13715 zqS_40 zqR_41 zqI_16))) 8 rfl) ?_
  refine Eq.trans (zmE_pures (c' := (30, [some (zr 42), some (zi 2)], [zr 46, zr 46, zi 2, zr 43], (zPW L xs 47 13718 zqS_41 zqR_41 zqI_16))) 2 rfl) ?_
  refine Eq.trans (zmE_callVd (r := (none, (zPW L xs 47 13718 zqS_41 zqR_41 zqI_17))) (c' := (33, [some (zr 42), some (zi 2)], [zr 46, zi 2, zr 43], (zPW L xs 47 13718 zqS_41 zqR_41 zqI_17))) rfl rfl rfl rfl rfl (Nat.le_of_ble_eq_true rfl) (Nat.le_of_ble_eq_true rfl) (zct_28 L xs (d + 1)) rfl) ?_
  rfl
set_option maxRecDepth 20000 in
theorem zct_25_1 (L : Nat) (xs : Nat → Int32) (d : Nat) : zmE (zmD zP (d + 2)) zc_11 (33, [some (zr 42), some (zi 2)], [zr 46, zi 2, zr 43], (zPW L xs 47 13718 zqS_41 zqR_41 zqI_17)) = zmE (zmD zP (d + 2)) zc_11 (26, [some (zr 42), some (zi 5)], [zi 5, zr 43], (zPW L xs 49 13724 zqS_43 zqR_44 zqI_19)) := by
  refine Eq.trans (zmE_pures (c' := (34, [some (zr 42), some (zi 2)], [], (zPW L xs 47 13718 zqS_41 zqR_42 zqI_17))) 1 rfl) ?_
  refine Eq.trans (zmE_pures (c' := (26, [some (zr 42), some (zi 3)], [zi 3, zr 43], (zPW L xs 47 13718 zqS_41 zqR_42 zqI_17))) 8 rfl) ?_
  refine Eq.trans (zmE_pures (c' := (30, [some (zr 42), some (zi 3)], [zr 47, zr 47, zi 3, zr 43], (zPW L xs 48 13721 zqS_42 zqR_42 zqI_17))) 2 rfl) ?_
  refine Eq.trans (zmE_callVd (r := (none, (zPW L xs 48 13721 zqS_42 zqR_42 zqI_18))) (c' := (33, [some (zr 42), some (zi 3)], [zr 47, zi 3, zr 43], (zPW L xs 48 13721 zqS_42 zqR_42 zqI_18))) rfl rfl rfl rfl rfl (Nat.le_of_ble_eq_true rfl) (Nat.le_of_ble_eq_true rfl) (zct_29 L xs (d + 1)) rfl) ?_
  refine Eq.trans (zmE_pures (c' := (34, [some (zr 42), some (zi 3)], [], (zPW L xs 48 13721 zqS_42 zqR_43 zqI_18))) 1 rfl) ?_
  refine Eq.trans (zmE_pures (c' := (26, [some (zr 42), some (zi 4)], [zi 4, zr 43], (zPW L xs 48 13721 zqS_42 zqR_43 zqI_18))) 8 rfl) ?_
  refine Eq.trans (zmE_pures (c' := (30, [some (zr 42), some (zi 4)], [zr 48, zr 48, zi 4, zr 43], (zPW L xs 49 13724 zqS_43 zqR_43 zqI_18))) 2 rfl) ?_
  refine Eq.trans (zmE_callVd (r := (none, (zPW L xs 49 13724 zqS_43 zqR_43 zqI_19))) (c' := (33, [some (zr 42), some (zi 4)], [zr 48, zi 4, zr 43], (zPW L xs 49 13724 zqS_43 zqR_43 zqI_19))) rfl rfl rfl rfl rfl (Nat.le_of_ble_eq_true rfl) (Nat.le_of_ble_eq_true rfl) (zct_30 L xs (d + 1)) rfl) ?_
  refine Eq.trans (zmE_pures (c' := (34, [some (zr 42), some (zi 4)], [], (zPW L xs 49 13724 zqS_43 zqR_44 zqI_19))) 1 rfl) ?_
  refine Eq.trans (zmE_pures (c' := (26, [some (zr 42), some (zi 5)], [zi 5, zr 43], (zPW L xs 49 13724 zqS_43 zqR_44 zqI_19))) 8 rfl) ?_
  rfl
set_option maxRecDepth 20000 in
theorem zct_25_2 (L : Nat) (xs : Nat → Int32) (d : Nat) : zmE (zmD zP (d + 2)) zc_11 (26, [some (zr 42), some (zi 5)], [zi 5, zr 43], (zPW L xs 49 13724 zqS_43 zqR_44 zqI_19)) = zmE (zmD zP (d + 2)) zc_11 (33, [some (zr 42), some (zi 7)], [zr 51, zi 7, zr 43], (zPW L xs 52 13733 zqS_46 zqR_46 zqI_22)) := by
  refine Eq.trans (zmE_pures (c' := (30, [some (zr 42), some (zi 5)], [zr 49, zr 49, zi 5, zr 43], (zPW L xs 50 13727 zqS_44 zqR_44 zqI_19))) 2 rfl) ?_
  refine Eq.trans (zmE_callVd (r := (none, (zPW L xs 50 13727 zqS_44 zqR_44 zqI_20))) (c' := (33, [some (zr 42), some (zi 5)], [zr 49, zi 5, zr 43], (zPW L xs 50 13727 zqS_44 zqR_44 zqI_20))) rfl rfl rfl rfl rfl (Nat.le_of_ble_eq_true rfl) (Nat.le_of_ble_eq_true rfl) (zct_31 L xs (d + 1)) rfl) ?_
  refine Eq.trans (zmE_pures (c' := (34, [some (zr 42), some (zi 5)], [], (zPW L xs 50 13727 zqS_44 zqR_45 zqI_20))) 1 rfl) ?_
  refine Eq.trans (zmE_pures (c' := (26, [some (zr 42), some (zi 6)], [zi 6, zr 43], (zPW L xs 50 13727 zqS_44 zqR_45 zqI_20))) 8 rfl) ?_
  refine Eq.trans (zmE_pures (c' := (30, [some (zr 42), some (zi 6)], [zr 50, zr 50, zi 6, zr 43], (zPW L xs 51 13730 zqS_45 zqR_45 zqI_20))) 2 rfl) ?_
  refine Eq.trans (zmE_callVd (r := (none, (zPW L xs 51 13730 zqS_45 zqR_45 zqI_21))) (c' := (33, [some (zr 42), some (zi 6)], [zr 50, zi 6, zr 43], (zPW L xs 51 13730 zqS_45 zqR_45 zqI_21))) rfl rfl rfl rfl rfl (Nat.le_of_ble_eq_true rfl) (Nat.le_of_ble_eq_true rfl) (zct_32 L xs (d + 1)) rfl) ?_
  refine Eq.trans (zmE_pures (c' := (34, [some (zr 42), some (zi 6)], [], (zPW L xs 51 13730 zqS_45 zqR_46 zqI_21))) 1 rfl) ?_
  refine Eq.trans (zmE_pures (c' := (26, [some (zr 42), some (zi 7)], [zi 7, zr 43], (zPW L xs 51 13730 zqS_45 zqR_46 zqI_21))) 8 rfl) ?_
  refine Eq.trans (zmE_pures (c' := (30, [some (zr 42), some (zi 7)], [zr 51, zr 51, zi 7, zr 43], (zPW L xs 52 13733 zqS_46 zqR_46 zqI_21))) 2 rfl) ?_
  refine Eq.trans (zmE_callVd (r := (none, (zPW L xs 52 13733 zqS_46 zqR_46 zqI_22))) (c' := (33, [some (zr 42), some (zi 7)], [zr 51, zi 7, zr 43], (zPW L xs 52 13733 zqS_46 zqR_46 zqI_22))) rfl rfl rfl rfl rfl (Nat.le_of_ble_eq_true rfl) (Nat.le_of_ble_eq_true rfl) (zct_33 L xs (d + 1)) rfl) ?_
  rfl
set_option maxRecDepth 20000 in
theorem zct_25_3 (L : Nat) (xs : Nat → Int32) (d : Nat) : zmE (zmD zP (d + 2)) zc_11 (33, [some (zr 42), some (zi 7)], [zr 51, zi 7, zr 43], (zPW L xs 52 13733 zqS_46 zqR_46 zqI_22)) = zmE (zmD zP (d + 2)) zc_11 (26, [some (zr 42), some (zi 10)], [zi 10, zr 43], (zPW L xs 54 13739 zqS_48 zqR_49 zqI_24)) := by
  refine Eq.trans (zmE_pures (c' := (34, [some (zr 42), some (zi 7)], [], (zPW L xs 52 13733 zqS_46 zqR_47 zqI_22))) 1 rfl) ?_
  refine Eq.trans (zmE_pures (c' := (26, [some (zr 42), some (zi 8)], [zi 8, zr 43], (zPW L xs 52 13733 zqS_46 zqR_47 zqI_22))) 8 rfl) ?_
  refine Eq.trans (zmE_pures (c' := (30, [some (zr 42), some (zi 8)], [zr 52, zr 52, zi 8, zr 43], (zPW L xs 53 13736 zqS_47 zqR_47 zqI_22))) 2 rfl) ?_
  refine Eq.trans (zmE_callVd (r := (none, (zPW L xs 53 13736 zqS_47 zqR_47 zqI_23))) (c' := (33, [some (zr 42), some (zi 8)], [zr 52, zi 8, zr 43], (zPW L xs 53 13736 zqS_47 zqR_47 zqI_23))) rfl rfl rfl rfl rfl (Nat.le_of_ble_eq_true rfl) (Nat.le_of_ble_eq_true rfl) (zct_34 L xs (d + 1)) rfl) ?_
  refine Eq.trans (zmE_pures (c' := (34, [some (zr 42), some (zi 8)], [], (zPW L xs 53 13736 zqS_47 zqR_48 zqI_23))) 1 rfl) ?_
  refine Eq.trans (zmE_pures (c' := (26, [some (zr 42), some (zi 9)], [zi 9, zr 43], (zPW L xs 53 13736 zqS_47 zqR_48 zqI_23))) 8 rfl) ?_
  refine Eq.trans (zmE_pures (c' := (30, [some (zr 42), some (zi 9)], [zr 53, zr 53, zi 9, zr 43], (zPW L xs 54 13739 zqS_48 zqR_48 zqI_23))) 2 rfl) ?_
  refine Eq.trans (zmE_callVd (r := (none, (zPW L xs 54 13739 zqS_48 zqR_48 zqI_24))) (c' := (33, [some (zr 42), some (zi 9)], [zr 53, zi 9, zr 43], (zPW L xs 54 13739 zqS_48 zqR_48 zqI_24))) rfl rfl rfl rfl rfl (Nat.le_of_ble_eq_true rfl) (Nat.le_of_ble_eq_true rfl) (zct_35 L xs (d + 1)) rfl) ?_
  refine Eq.trans (zmE_pures (c' := (34, [some (zr 42), some (zi 9)], [], (zPW L xs 54 13739 zqS_48 zqR_49 zqI_24))) 1 rfl) ?_
  refine Eq.trans (zmE_pures (c' := (26, [some (zr 42), some (zi 10)], [zi 10, zr 43], (zPW L xs 54 13739 zqS_48 zqR_49 zqI_24))) 8 rfl) ?_
  rfl
set_option maxRecDepth 20000 in
theorem zct_25_4 (L : Nat) (xs : Nat → Int32) (d : Nat) : zmE (zmD zP (d + 2)) zc_11 (26, [some (zr 42), some (zi 10)], [zi 10, zr 43], (zPW L xs 54 13739 zqS_48 zqR_49 zqI_24)) = zmE (zmD zP (d + 2)) zc_11 (61, [some (zr 42), some (zi 12)], [zr 58, zr 58, zr 42], (zPW L xs 59 13773 zqS_53 zqR_52 zqI_26)) := by
  refine Eq.trans (zmE_pures (c' := (30, [some (zr 42), some (zi 10)], [zr 54, zr 54, zi 10, zr 43], (zPW L xs 55 13742 zqS_49 zqR_49 zqI_24))) 2 rfl) ?_
  refine Eq.trans (zmE_callVd (r := (none, (zPW L xs 55 13742 zqS_49 zqR_49 zqI_25))) (c' := (33, [some (zr 42), some (zi 10)], [zr 54, zi 10, zr 43], (zPW L xs 55 13742 zqS_49 zqR_49 zqI_25))) rfl rfl rfl rfl rfl (Nat.le_of_ble_eq_true rfl) (Nat.le_of_ble_eq_true rfl) (zct_36 L xs (d + 1)) rfl) ?_
  refine Eq.trans (zmE_pures (c' := (34, [some (zr 42), some (zi 10)], [], (zPW L xs 55 13742 zqS_49 zqR_50 zqI_25))) 1 rfl) ?_
  refine Eq.trans (zmE_pures (c' := (26, [some (zr 42), some (zi 11)], [zi 11, zr 43], (zPW L xs 55 13742 zqS_49 zqR_50 zqI_25))) 8 rfl) ?_
  refine Eq.trans (zmE_pures (c' := (30, [some (zr 42), some (zi 11)], [zr 55, zr 55, zi 11, zr 43], (zPW L xs 56 13745 zqS_50 zqR_50 zqI_25))) 2 rfl) ?_
  refine Eq.trans (zmE_callVd (r := (none, (zPW L xs 56 13745 zqS_50 zqR_50 zqI_26))) (c' := (33, [some (zr 42), some (zi 11)], [zr 55, zi 11, zr 43], (zPW L xs 56 13745 zqS_50 zqR_50 zqI_26))) rfl rfl rfl rfl rfl (Nat.le_of_ble_eq_true rfl) (Nat.le_of_ble_eq_true rfl) (zct_37 L xs (d + 1)) rfl) ?_
  refine Eq.trans (zmE_pures (c' := (34, [some (zr 42), some (zi 11)], [], (zPW L xs 56 13745 zqS_50 zqR_51 zqI_26))) 1 rfl) ?_
  refine Eq.trans (zmE_pures (c' := (45, [some (zr 42), some (zi 12)], [zr 56, zr 42], (zPW L xs 57 13757 zqS_51 zqR_51 zqI_26))) 8 rfl) ?_
  refine Eq.trans (zmE_pures (c' := (56, [some (zr 42), some (zi 12)], [], (zPW L xs 58 13769 zqS_52 zqR_52 zqI_26))) 5 rfl) ?_
  refine Eq.trans (zmE_pures (c' := (61, [some (zr 42), some (zi 12)], [zr 58, zr 58, zr 42], (zPW L xs 59 13773 zqS_53 zqR_52 zqI_26))) 3 rfl) ?_
  rfl
set_option maxRecDepth 20000 in
theorem zct_25 (L : Nat) (xs : Nat → Int32) (d : Nat) : zmD zP (d + 3) 11 [zr 42] (zPW L xs 43 13697 zqS_37 zqR_38 zqI_14) = some (none, (zPW L xs 64 13847 zqS_57 zqR_57 zqI_28)) := by
  refine (show _ = zmE (zmD zP (d + 2)) zc_11 (0, [some (zr 42), none], [], (zPW L xs 43 13697 zqS_37 zqR_38 zqI_14)) from rfl).trans ?_
  refine Eq.trans (zct_25_0 L xs d) ?_
  refine Eq.trans (zct_25_1 L xs d) ?_
  refine Eq.trans (zct_25_2 L xs d) ?_
  refine Eq.trans (zct_25_3 L xs d) ?_
  refine Eq.trans (zct_25_4 L xs d) ?_
  refine Eq.trans (zmE_callVd (r := (none, (zPW L xs 60 13837 zqS_54 zqR_53 zqI_28))) (c' := (64, [some (zr 42), some (zi 12)], [zr 58, zr 42], (zPW L xs 60 13837 zqS_54 zqR_53 zqI_28))) rfl rfl rfl rfl rfl (Nat.le_of_ble_eq_true rfl) (Nat.le_of_ble_eq_true rfl) (zct_38 L xs (d + 1)) rfl) ?_
  refine Eq.trans (zmE_pures (c' := (67, [some (zr 42), some (zi 12)], [], (zPW L xs 60 13837 zqS_54 zqR_54 zqI_28))) 1 rfl) ?_
  refine Eq.trans (zmE_pures (c' := (73, [some (zr 42), some (zi 12)], [zi 2, zr 60, zr 60, zr 42], (zPW L xs 61 13841 zqS_55 zqR_54 zqI_28))) 4 rfl) ?_
  refine Eq.trans (zmE_callVd (r := (none, (zPW L xs 64 13847 zqS_57 zqR_56 zqI_28))) (c' := (76, [some (zr 42), some (zi 12)], [zr 60, zr 42], (zPW L xs 64 13847 zqS_57 zqR_56 zqI_28))) rfl rfl rfl rfl rfl (Nat.le_of_ble_eq_true rfl) (Nat.le_of_ble_eq_true rfl) (zct_39 L xs d) rfl) ?_
  refine Eq.trans (zmE_pures (c' := (79, [some (zr 42), some (zi 12)], [], (zPW L xs 64 13847 zqS_57 zqR_57 zqI_28))) 1 rfl) ?_
  exact zmE_ret rfl
set_option maxRecDepth 20000 in
theorem zct_42 (L : Nat) (xs : Nat → Int32) (d : Nat) : zmD zP (d + 1) 4 [zr 66] (zPW L xs 67 13863 zqS_59 zqR_58 zqI_28) = some (none, (zPW L xs 68 13927 zqS_60 zqR_59 zqI_30)) := by
  refine (show _ = zmE (zmD zP (d + 0)) zc_4 (0, [some (zr 66)], [], (zPW L xs 67 13863 zqS_59 zqR_58 zqI_28)) from rfl).trans ?_
  refine Eq.trans (zmE_pures (c' := (16, [some (zr 66)], [zr 67], (zPW L xs 68 13927 zqS_60 zqR_59 zqI_28))) 8 rfl) ?_
  refine Eq.trans (zmE_pures (c' := (29, [some (zr 66)], [], (zPW L xs 68 13927 zqS_60 zqR_59 zqI_29))) 8 rfl) ?_
  refine Eq.trans (zmE_pures (c' := (40, [some (zr 66)], [], (zPW L xs 68 13927 zqS_60 zqR_59 zqI_30))) 6 rfl) ?_
  exact zmE_ret rfl
set_option maxRecDepth 20000 in
theorem zct_43 (L : Nat) (xs : Nat → Int32) (d : Nat) : zmD zP (d + 1) 4 [zr 68] (zPW L xs 69 13931 zqS_61 zqR_60 zqI_30) = some (none, (zPW L xs 70 13995 zqS_62 zqR_61 zqI_32)) := by
  refine (show _ = zmE (zmD zP (d + 0)) zc_4 (0, [some (zr 68)], [], (zPW L xs 69 13931 zqS_61 zqR_60 zqI_30)) from rfl).trans ?_
  refine Eq.trans (zmE_pures (c' := (16, [some (zr 68)], [zr 69], (zPW L xs 70 13995 zqS_62 zqR_61 zqI_30))) 8 rfl) ?_
  refine Eq.trans (zmE_pures (c' := (29, [some (zr 68)], [], (zPW L xs 70 13995 zqS_62 zqR_61 zqI_31))) 8 rfl) ?_
  refine Eq.trans (zmE_pures (c' := (40, [some (zr 68)], [], (zPW L xs 70 13995 zqS_62 zqR_61 zqI_32))) 6 rfl) ?_
  exact zmE_ret rfl
set_option maxRecDepth 20000 in
theorem zct_44 (L : Nat) (xs : Nat → Int32) (d : Nat) : zmD zP (d + 1) 4 [zr 70] (zPW L xs 71 13999 zqS_63 zqR_62 zqI_32) = some (none, (zPW L xs 72 14063 zqS_64 zqR_63 zqI_34)) := by
  refine (show _ = zmE (zmD zP (d + 0)) zc_4 (0, [some (zr 70)], [], (zPW L xs 71 13999 zqS_63 zqR_62 zqI_32)) from rfl).trans ?_
  refine Eq.trans (zmE_pures (c' := (16, [some (zr 70)], [zr 71], (zPW L xs 72 14063 zqS_64 zqR_63 zqI_32))) 8 rfl) ?_
  refine Eq.trans (zmE_pures (c' := (29, [some (zr 70)], [], (zPW L xs 72 14063 zqS_64 zqR_63 zqI_33))) 8 rfl) ?_
  refine Eq.trans (zmE_pures (c' := (40, [some (zr 70)], [], (zPW L xs 72 14063 zqS_64 zqR_63 zqI_34))) 6 rfl) ?_
  exact zmE_ret rfl
set_option maxRecDepth 20000 in
theorem zct_46 (L : Nat) (xs : Nat → Int32) (d : Nat) : zmD zP (d + 1) 3 [zi 0, zi 41] (zPW L xs 74 14070 zqS_65 zqR_65 zqI_34) = some (some (zi 41), (zPW L xs 74 14070 zqS_65 zqR_65 zqI_34)) := by
  refine (show _ = zmE (zmD zP (d + 0)) zc_3 (0, [some (zi 0), some (zi 41)], [], (zPW L xs 74 14070 zqS_65 zqR_65 zqI_34)) from rfl).trans ?_
  refine Eq.trans (zmE_pures (c' := (10, [some (zi 0), some (zi 41)], [zi 41], (zPW L xs 74 14070 zqS_65 zqR_65 zqI_34))) 4 rfl) ?_
  exact zmE_ret rfl
set_option maxRecDepth 20000 in
theorem zct_45 (L : Nat) (xs : Nat → Int32) (d : Nat) : zmD zP (d + 2) 7 [zr 73, zi 41] (zPW L xs 74 14070 zqS_65 zqR_65 zqI_34) = some (none, (zPW L xs 77 14193 zqS_67 zqR_67 zqI_34)) := by
  refine (show _ = zmE (zmD zP (d + 1)) zc_7 (0, [some (zr 73), some (zi 41), none], [], (zPW L xs 74 14070 zqS_65 zqR_65 zqI_34)) from rfl).trans ?_
  refine Eq.trans (zmE_pures (c' := (6, [some (zr 73), some (zi 41), none], [zi 41, zi 0], (zPW L xs 74 14070 zqS_65 zqR_65 zqI_34))) 4 rfl) ?_
  refine Eq.trans (zmE_callSd (r := (some (zi 41), (zPW L xs 74 14070 zqS_65 zqR_65 zqI_34))) (c' := (9, [some (zr 73), some (zi 41), none], [zi 41], (zPW L xs 74 14070 zqS_65 zqR_65 zqI_34))) rfl rfl rfl (Nat.le_of_ble_eq_true rfl) (Nat.le_of_ble_eq_true rfl) (zct_46 L xs d) rfl) ?_
  refine Eq.trans (zmE_pures (c' := (21, [some (zr 73), some (zi 41), some (zi 41)], [zr 75, zr 73], (zPW L xs 76 14152 zqS_66 zqR_66 zqI_34))) 8 rfl) ?_
  refine Eq.trans (zmE_pures (c' := (31, [some (zr 73), some (zi 41), some (zi 41)], [], (zPW L xs 77 14193 zqS_67 zqR_67 zqI_34))) 5 rfl) ?_
  exact zmE_ret rfl
set_option maxRecDepth 20000 in
theorem zct_48 (L : Nat) (xs : Nat → Int32) (d : Nat) : zmD zP (d + 1) 3 [zi 0, zi 41] (zPW L xs 78 14197 zqS_68 zqR_68 zqI_34) = some (some (zi 41), (zPW L xs 78 14197 zqS_68 zqR_68 zqI_34)) := by
  refine (show _ = zmE (zmD zP (d + 0)) zc_3 (0, [some (zi 0), some (zi 41)], [], (zPW L xs 78 14197 zqS_68 zqR_68 zqI_34)) from rfl).trans ?_
  refine Eq.trans (zmE_pures (c' := (10, [some (zi 0), some (zi 41)], [zi 41], (zPW L xs 78 14197 zqS_68 zqR_68 zqI_34))) 4 rfl) ?_
  exact zmE_ret rfl
set_option maxRecDepth 20000 in
theorem zct_47 (L : Nat) (xs : Nat → Int32) (d : Nat) : zmD zP (d + 2) 7 [zr 77, zi 41] (zPW L xs 78 14197 zqS_68 zqR_68 zqI_34) = some (none, (zPW L xs 81 14320 zqS_70 zqR_70 zqI_34)) := by
  refine (show _ = zmE (zmD zP (d + 1)) zc_7 (0, [some (zr 77), some (zi 41), none], [], (zPW L xs 78 14197 zqS_68 zqR_68 zqI_34)) from rfl).trans ?_
  refine Eq.trans (zmE_pures (c' := (6, [some (zr 77), some (zi 41), none], [zi 41, zi 0], (zPW L xs 78 14197 zqS_68 zqR_68 zqI_34))) 4 rfl) ?_
  refine Eq.trans (zmE_callSd (r := (some (zi 41), (zPW L xs 78 14197 zqS_68 zqR_68 zqI_34))) (c' := (9, [some (zr 77), some (zi 41), none], [zi 41], (zPW L xs 78 14197 zqS_68 zqR_68 zqI_34))) rfl rfl rfl (Nat.le_of_ble_eq_true rfl) (Nat.le_of_ble_eq_true rfl) (zct_48 L xs d) rfl) ?_
  refine Eq.trans (zmE_pures (c' := (21, [some (zr 77), some (zi 41), some (zi 41)], [zr 79, zr 77], (zPW L xs 80 14279 zqS_69 zqR_69 zqI_34))) 8 rfl) ?_
  refine Eq.trans (zmE_pures (c' := (31, [some (zr 77), some (zi 41), some (zi 41)], [], (zPW L xs 81 14320 zqS_70 zqR_70 zqI_34))) 5 rfl) ?_
  exact zmE_ret rfl
set_option maxRecDepth 20000 in
theorem zct_50 (L : Nat) (xs : Nat → Int32) (d : Nat) : zmD zP (d + 1) 3 [zi 0, zi 41] (zPW L xs 82 14324 zqS_71 zqR_71 zqI_34) = some (some (zi 41), (zPW L xs 82 14324 zqS_71 zqR_71 zqI_34)) := by
  refine (show _ = zmE (zmD zP (d + 0)) zc_3 (0, [some (zi 0), some (zi 41)], [], (zPW L xs 82 14324 zqS_71 zqR_71 zqI_34)) from rfl).trans ?_
  refine Eq.trans (zmE_pures (c' := (10, [some (zi 0), some (zi 41)], [zi 41], (zPW L xs 82 14324 zqS_71 zqR_71 zqI_34))) 4 rfl) ?_
  exact zmE_ret rfl
set_option maxRecDepth 20000 in
theorem zct_49 (L : Nat) (xs : Nat → Int32) (d : Nat) : zmD zP (d + 2) 7 [zr 81, zi 41] (zPW L xs 82 14324 zqS_71 zqR_71 zqI_34) = some (none, (zPW L xs 85 14447 zqS_73 zqR_73 zqI_34)) := by
  refine (show _ = zmE (zmD zP (d + 1)) zc_7 (0, [some (zr 81), some (zi 41), none], [], (zPW L xs 82 14324 zqS_71 zqR_71 zqI_34)) from rfl).trans ?_
  refine Eq.trans (zmE_pures (c' := (6, [some (zr 81), some (zi 41), none], [zi 41, zi 0], (zPW L xs 82 14324 zqS_71 zqR_71 zqI_34))) 4 rfl) ?_
  refine Eq.trans (zmE_callSd (r := (some (zi 41), (zPW L xs 82 14324 zqS_71 zqR_71 zqI_34))) (c' := (9, [some (zr 81), some (zi 41), none], [zi 41], (zPW L xs 82 14324 zqS_71 zqR_71 zqI_34))) rfl rfl rfl (Nat.le_of_ble_eq_true rfl) (Nat.le_of_ble_eq_true rfl) (zct_50 L xs d) rfl) ?_
  refine Eq.trans (zmE_pures (c' := (21, [some (zr 81), some (zi 41), some (zi 41)], [zr 83, zr 81], (zPW L xs 84 14406 zqS_72 zqR_72 zqI_34))) 8 rfl) ?_
  refine Eq.trans (zmE_pures (c' := (31, [some (zr 81), some (zi 41), some (zi 41)], [], (zPW L xs 85 14447 zqS_73 zqR_73 zqI_34))) 5 rfl) ?_
  exact zmE_ret rfl
set_option maxRecDepth 20000 in
theorem zct_41_0 (L : Nat) (xs : Nat → Int32) (d : Nat) : zmE (zmD zP (d + 2)) zc_12 (0, [some (zr 64)], [], (zPW L xs 65 13856 zqS_58 zqR_58 zqI_28)) = zmE (zmD zP (d + 2)) zc_12 (39, [some (zr 64)], [zr 65, zr 64], (zPW L xs 72 14063 zqS_64 zqR_64 zqI_34)) := by
  refine Eq.trans (zmE_pures (c' := (14, [some (zr 64)], [zr 66, zi 0, zr 65, zr 65, zr 64], (zPW L xs 67 13863 zqS_59 zqR_58 zqI_28))) 8 rfl) ?_
  refine Eq.trans (zmE_pures (c' := (15, [some (zr 64)], [zr 66, zr 66, zi 0, zr 65, zr 65, zr 64], (zPW L xs 67 13863 zqS_59 zqR_58 zqI_28))) 1 rfl) ?_
  refine Eq.trans (zmE_callVd (r := (none, (zPW L xs 68 13927 zqS_60 zqR_59 zqI_30))) (c' := (18, [some (zr 64)], [zr 66, zi 0, zr 65, zr 65, zr 64], (zPW L xs 68 13927 zqS_60 zqR_59 zqI_30))) rfl rfl rfl rfl rfl (Nat.le_of_ble_eq_true rfl) (Nat.le_of_ble_eq_true rfl) (zct_42 L xs (d + 1)) rfl) ?_
  refine Eq.trans (zmE_pures (c' := (19, [some (zr 64)], [zr 65, zr 64], (zPW L xs 68 13927 zqS_60 zqR_60 zqI_30))) 1 rfl) ?_
  refine Eq.trans (zmE_pures (c' := (25, [some (zr 64)], [zr 68, zr 68, zi 1, zr 65, zr 65, zr 64], (zPW L xs 69 13931 zqS_61 zqR_60 zqI_30))) 4 rfl) ?_
  refine Eq.trans (zmE_callVd (r := (none, (zPW L xs 70 13995 zqS_62 zqR_61 zqI_32))) (c' := (28, [some (zr 64)], [zr 68, zi 1, zr 65, zr 65, zr 64], (zPW L xs 70 13995 zqS_62 zqR_61 zqI_32))) rfl rfl rfl rfl rfl (Nat.le_of_ble_eq_true rfl) (Nat.le_of_ble_eq_true rfl) (zct_43 L xs (d + 1)) rfl) ?_
  refine Eq.trans (zmE_pures (c' := (29, [some (zr 64)], [zr 65, zr 64], (zPW L xs 70 13995 zqS_62 zqR_62 zqI_32))) 1 rfl) ?_
  refine Eq.trans (zmE_pures (c' := (35, [some (zr 64)], [zr 70, zr 70, zi 2, zr 65, zr 65, zr 64], (zPW L xs 71 13999 zqS_63 zqR_62 zqI_32))) 4 rfl) ?_
  refine Eq.trans (zmE_callVd (r := (none, (zPW L xs 72 14063 zqS_64 zqR_63 zqI_34))) (c' := (38, [some (zr 64)], [zr 70, zi 2, zr 65, zr 65, zr 64], (zPW L xs 72 14063 zqS_64 zqR_63 zqI_34))) rfl rfl rfl rfl rfl (Nat.le_of_ble_eq_true rfl) (Nat.le_of_ble_eq_true rfl) (zct_44 L xs (d + 1)) rfl) ?_
  refine Eq.trans (zmE_pures (c' := (39, [some (zr 64)], [zr 65, zr 64], (zPW L xs 72 14063 zqS_64 zqR_64 zqI_34))) 1 rfl) ?_
  rfl
set_option maxRecDepth 20000 in
theorem zct_41_1 (L : Nat) (xs : Nat → Int32) (d : Nat) : zmE (zmD zP (d + 2)) zc_12 (39, [some (zr 64)], [zr 65, zr 64], (zPW L xs 72 14063 zqS_64 zqR_64 zqI_34)) = zmE (zmD zP (d + 2)) zc_12 (83, [some (zr 64)], [zr 72, zr 64], (zPW L xs 85 14447 zqS_73 zqR_74 zqI_34)) := by
  refine Eq.trans (zmE_pures (c' := (52, [some (zr 64)], [zr 73, zi 0, zr 72, zr 72, zr 64], (zPW L xs 74 14070 zqS_65 zqR_65 zqI_34))) 7 rfl) ?_
  refine Eq.trans (zmE_pures (c' := (55, [some (zr 64)], [zi 41, zr 73, zr 73, zi 0, zr 72, zr 72, zr 64], (zPW L xs 74 14070 zqS_65 zqR_65 zqI_34))) 2 rfl) ?_
  refine Eq.trans (zmE_callVd (r := (none, (zPW L xs 77 14193 zqS_67 zqR_67 zqI_34))) (c' := (58, [some (zr 64)], [zr 73, zi 0, zr 72, zr 72, zr 64], (zPW L xs 77 14193 zqS_67 zqR_67 zqI_34))) rfl rfl rfl rfl rfl (Nat.le_of_ble_eq_true rfl) (Nat.le_of_ble_eq_true rfl) (zct_45 L xs d) rfl) ?_
  refine Eq.trans (zmE_pures (c' := (59, [some (zr 64)], [zr 72, zr 64], (zPW L xs 77 14193 zqS_67 zqR_68 zqI_34))) 1 rfl) ?_
  refine Eq.trans (zmE_pures (c' := (67, [some (zr 64)], [zi 41, zr 77, zr 77, zi 1, zr 72, zr 72, zr 64], (zPW L xs 78 14197 zqS_68 zqR_68 zqI_34))) 5 rfl) ?_
  refine Eq.trans (zmE_callVd (r := (none, (zPW L xs 81 14320 zqS_70 zqR_70 zqI_34))) (c' := (70, [some (zr 64)], [zr 77, zi 1, zr 72, zr 72, zr 64], (zPW L xs 81 14320 zqS_70 zqR_70 zqI_34))) rfl rfl rfl rfl rfl (Nat.le_of_ble_eq_true rfl) (Nat.le_of_ble_eq_true rfl) (zct_47 L xs d) rfl) ?_
  refine Eq.trans (zmE_pures (c' := (71, [some (zr 64)], [zr 72, zr 64], (zPW L xs 81 14320 zqS_70 zqR_71 zqI_34))) 1 rfl) ?_
  refine Eq.trans (zmE_pures (c' := (79, [some (zr 64)], [zi 41, zr 81, zr 81, zi 2, zr 72, zr 72, zr 64], (zPW L xs 82 14324 zqS_71 zqR_71 zqI_34))) 5 rfl) ?_
  refine Eq.trans (zmE_callVd (r := (none, (zPW L xs 85 14447 zqS_73 zqR_73 zqI_34))) (c' := (82, [some (zr 64)], [zr 81, zi 2, zr 72, zr 72, zr 64], (zPW L xs 85 14447 zqS_73 zqR_73 zqI_34))) rfl rfl rfl rfl rfl (Nat.le_of_ble_eq_true rfl) (Nat.le_of_ble_eq_true rfl) (zct_49 L xs d) rfl) ?_
  refine Eq.trans (zmE_pures (c' := (83, [some (zr 64)], [zr 72, zr 64], (zPW L xs 85 14447 zqS_73 zqR_74 zqI_34))) 1 rfl) ?_
  rfl
set_option maxRecDepth 20000 in
theorem zct_41 (L : Nat) (xs : Nat → Int32) (d : Nat) : zmD zP (d + 3) 12 [zr 64] (zPW L xs 65 13856 zqS_58 zqR_58 zqI_28) = some (none, (zPW L xs 89 14648 zqS_76 zqR_77 zqI_34)) := by
  refine (show _ = zmE (zmD zP (d + 2)) zc_12 (0, [some (zr 64)], [], (zPW L xs 65 13856 zqS_58 zqR_58 zqI_28)) from rfl).trans ?_
  refine Eq.trans (zct_41_0 L xs d) ?_
  refine Eq.trans (zct_41_1 L xs d) ?_
  refine Eq.trans (zmE_pures (c' := (93, [some (zr 64)], [], (zPW L xs 86 14450 zqS_74 zqR_75 zqI_34))) 5 rfl) ?_
  refine Eq.trans (zmE_pures (c' := (104, [some (zr 64)], [zr 87, zr 64], (zPW L xs 88 14456 zqS_75 zqR_76 zqI_34))) 7 rfl) ?_
  refine Eq.trans (zmE_pures (c' := (116, [some (zr 64)], [], (zPW L xs 89 14648 zqS_76 zqR_77 zqI_34))) 5 rfl) ?_
  exact zmE_ret rfl
set_option maxRecDepth 20000 in
theorem zct_51 (L : Nat) (xs : Nat → Int32) (d : Nat) : zmD zP (d + 1) 13 [zr 90] (zPW L xs 91 14656 zqS_77 zqR_78 zqI_34) = some (none, (zPW L xs 92 14716 zqS_78 zqR_79 zqI_34)) := by
  refine (show _ = zmE (zmD zP (d + 0)) zc_13 (0, [some (zr 90)], [], (zPW L xs 91 14656 zqS_77 zqR_78 zqI_34)) from rfl).trans ?_
  refine Eq.trans (zmE_pures (c' := (12, [some (zr 90)], [], (zPW L xs 92 14716 zqS_78 zqR_79 zqI_34))) 6 rfl) ?_
  exact zmE_ret rfl
set_option maxRecDepth 20000 in
theorem zct_52 (L : Nat) (xs : Nat → Int32) (d : Nat) : zmD zP (d + 1) 13 [zr 92] (zPW L xs 93 14720 zqS_79 zqR_80 zqI_34) = some (none, (zPW L xs 94 14780 zqS_80 zqR_81 zqI_34)) := by
  refine (show _ = zmE (zmD zP (d + 0)) zc_13 (0, [some (zr 92)], [], (zPW L xs 93 14720 zqS_79 zqR_80 zqI_34)) from rfl).trans ?_
  refine Eq.trans (zmE_pures (c' := (12, [some (zr 92)], [], (zPW L xs 94 14780 zqS_80 zqR_81 zqI_34))) 6 rfl) ?_
  exact zmE_ret rfl
set_option maxRecDepth 20000 in
theorem zct_53 (L : Nat) (xs : Nat → Int32) (d : Nat) : zmD zP (d + 1) 13 [zr 94] (zPW L xs 95 14784 zqS_81 zqR_82 zqI_34) = some (none, (zPW L xs 96 14844 zqS_82 zqR_83 zqI_34)) := by
  refine (show _ = zmE (zmD zP (d + 0)) zc_13 (0, [some (zr 94)], [], (zPW L xs 95 14784 zqS_81 zqR_82 zqI_34)) from rfl).trans ?_
  refine Eq.trans (zmE_pures (c' := (12, [some (zr 94)], [], (zPW L xs 96 14844 zqS_82 zqR_83 zqI_34))) 6 rfl) ?_
  exact zmE_ret rfl
set_option maxRecDepth 20000 in
theorem zct_54 (L : Nat) (xs : Nat → Int32) (d : Nat) : zmD zP (d + 1) 13 [zr 96] (zPW L xs 97 14848 zqS_83 zqR_84 zqI_34) = some (none, (zPW L xs 98 14908 zqS_84 zqR_85 zqI_34)) := by
  refine (show _ = zmE (zmD zP (d + 0)) zc_13 (0, [some (zr 96)], [], (zPW L xs 97 14848 zqS_83 zqR_84 zqI_34)) from rfl).trans ?_
  refine Eq.trans (zmE_pures (c' := (12, [some (zr 96)], [], (zPW L xs 98 14908 zqS_84 zqR_85 zqI_34))) 6 rfl) ?_
  exact zmE_ret rfl
set_option maxRecDepth 20000 in
theorem zct_1_0 (L : Nat) (xs : Nat → Int32) (d : Nat) : zmE (zmD zP (d + 3)) zc_0 (0, [some (zr 0)], [], (zPW L xs 1 17 zqS_1 zqR_0 zqI_0)) = zmE (zmD zP (d + 3)) zc_0 (45, [some (zr 0)], [zr 1, zr 0], (zPW L xs 8 176 zqS_7 zqR_6 zqI_0)) := by
  refine Eq.trans (zmE_pures (c' := (14, [some (zr 0)], [zr 2, zi 0, zr 1, zr 1, zr 0], (zPW L xs 3 22 zqS_2 zqR_0 zqI_0))) 8 rfl) ?_
  refine Eq.trans (zmE_pures (c' := (17, [some (zr 0)], [zi 80, zr 2, zr 2, zi 0, zr 1, zr 1, zr 0], (zPW L xs 3 22 zqS_2 zqR_0 zqI_0))) 2 rfl) ?_
  refine Eq.trans (zmE_callVd (r := (none, (zPW L xs 4 102 zqS_3 zqR_1 zqI_0))) (c' := (20, [some (zr 0)], [zr 2, zi 0, zr 1, zr 1, zr 0], (zPW L xs 4 102 zqS_3 zqR_1 zqI_0))) rfl rfl rfl rfl rfl (Nat.le_of_ble_eq_true rfl) (Nat.le_of_ble_eq_true rfl) (zct_2 L xs (d + 1)) rfl) ?_
  refine Eq.trans (zmE_pures (c' := (21, [some (zr 0)], [zr 1, zr 0], (zPW L xs 4 102 zqS_3 zqR_2 zqI_0))) 1 rfl) ?_
  refine Eq.trans (zmE_pures (c' := (29, [some (zr 0)], [zi 10, zr 4, zr 4, zi 1, zr 1, zr 1, zr 0], (zPW L xs 5 104 zqS_4 zqR_2 zqI_0))) 5 rfl) ?_
  refine Eq.trans (zmE_callVd (r := (none, (zPW L xs 6 114 zqS_5 zqR_3 zqI_0))) (c' := (32, [some (zr 0)], [zr 4, zi 1, zr 1, zr 1, zr 0], (zPW L xs 6 114 zqS_5 zqR_3 zqI_0))) rfl rfl rfl rfl rfl (Nat.le_of_ble_eq_true rfl) (Nat.le_of_ble_eq_true rfl) (zct_4 L xs (d + 1)) rfl) ?_
  refine Eq.trans (zmE_pures (c' := (33, [some (zr 0)], [zr 1, zr 0], (zPW L xs 6 114 zqS_5 zqR_4 zqI_0))) 1 rfl) ?_
  refine Eq.trans (zmE_pures (c' := (41, [some (zr 0)], [zi 60, zr 6, zr 6, zi 2, zr 1, zr 1, zr 0], (zPW L xs 7 116 zqS_6 zqR_4 zqI_0))) 5 rfl) ?_
  refine Eq.trans (zmE_callVd (r := (none, (zPW L xs 8 176 zqS_7 zqR_5 zqI_0))) (c' := (44, [some (zr 0)], [zr 6, zi 2, zr 1, zr 1, zr 0], (zPW L xs 8 176 zqS_7 zqR_5 zqI_0))) rfl rfl rfl rfl rfl (Nat.le_of_ble_eq_true rfl) (Nat.le_of_ble_eq_true rfl) (zct_6 L xs (d + 1)) rfl) ?_
  refine Eq.trans (zmE_pures (c' := (45, [some (zr 0)], [zr 1, zr 0], (zPW L xs 8 176 zqS_7 zqR_6 zqI_0))) 1 rfl) ?_
  rfl
set_option maxRecDepth 20000 in
theorem zct_1_1 (L : Nat) (xs : Nat → Int32) (d : Nat) : zmE (zmD zP (d + 3)) zc_0 (45, [some (zr 0)], [zr 1, zr 0], (zPW L xs 8 176 zqS_7 zqR_6 zqI_0)) = zmE (zmD zP (d + 3)) zc_0 (86, [some (zr 0)], [zr 12, zr 12, zr 0], (zPW L xs 13 253 zqS_12 zqR_11 zqI_4)) := by
  refine Eq.trans (zmE_pures (c' := (53, [some (zr 0)], [zr 8, zr 8, zr 0], (zPW L xs 9 180 zqS_8 zqR_7 zqI_0))) 4 rfl) ?_
  refine Eq.trans (zmE_callVd (r := (none, (zPW L xs 10 244 zqS_9 zqR_8 zqI_2))) (c' := (56, [some (zr 0)], [zr 8, zr 0], (zPW L xs 10 244 zqS_9 zqR_8 zqI_2))) rfl rfl rfl rfl rfl (Nat.le_of_ble_eq_true rfl) (Nat.le_of_ble_eq_true rfl) (zct_8 L xs (d + 2)) rfl) ?_
  refine Eq.trans (zmE_pures (c' := (59, [some (zr 0)], [], (zPW L xs 10 244 zqS_9 zqR_9 zqI_2))) 1 rfl) ?_
  refine Eq.trans (zmE_pures (c' := (64, [some (zr 0)], [zr 10, zr 10, zr 0], (zPW L xs 11 247 zqS_10 zqR_9 zqI_2))) 3 rfl) ?_
  refine Eq.trans (zmE_callVd (r := (none, (zPW L xs 11 247 zqS_10 zqR_9 zqI_3))) (c' := (67, [some (zr 0)], [zr 10, zr 0], (zPW L xs 11 247 zqS_10 zqR_9 zqI_3))) rfl rfl rfl rfl rfl (Nat.le_of_ble_eq_true rfl) (Nat.le_of_ble_eq_true rfl) (zct_9 L xs (d + 2)) rfl) ?_
  refine Eq.trans (zmE_pures (c' := (70, [some (zr 0)], [], (zPW L xs 11 247 zqS_10 zqR_10 zqI_3))) 1 rfl) ?_
  refine Eq.trans (zmE_pures (c' := (75, [some (zr 0)], [zr 11, zr 11, zr 0], (zPW L xs 12 250 zqS_11 zqR_10 zqI_3))) 3 rfl) ?_
  refine Eq.trans (zmE_callVd (r := (none, (zPW L xs 12 250 zqS_11 zqR_10 zqI_4))) (c' := (78, [some (zr 0)], [zr 11, zr 0], (zPW L xs 12 250 zqS_11 zqR_10 zqI_4))) rfl rfl rfl rfl rfl (Nat.le_of_ble_eq_true rfl) (Nat.le_of_ble_eq_true rfl) (zct_10 L xs (d + 2)) rfl) ?_
  refine Eq.trans (zmE_pures (c' := (81, [some (zr 0)], [], (zPW L xs 12 250 zqS_11 zqR_11 zqI_4))) 1 rfl) ?_
  refine Eq.trans (zmE_pures (c' := (86, [some (zr 0)], [zr 12, zr 12, zr 0], (zPW L xs 13 253 zqS_12 zqR_11 zqI_4))) 3 rfl) ?_
  rfl
set_option maxRecDepth 20000 in
theorem zct_1_2 (L : Nat) (xs : Nat → Int32) (d : Nat) : zmE (zmD zP (d + 3)) zc_0 (86, [some (zr 0)], [zr 12, zr 12, zr 0], (zPW L xs 13 253 zqS_12 zqR_11 zqI_4)) = zmE (zmD zP (d + 3)) zc_0 (135, [some (zr 0)], [zr 19, zr 19, zr 0], (zPW L xs 20 5256 zqS_18 zqR_17 zqI_7)) := by
  refine Eq.trans (zmE_callVd (r := (none, (zPW L xs 13 253 zqS_12 zqR_11 zqI_5))) (c' := (89, [some (zr 0)], [zr 12, zr 0], (zPW L xs 13 253 zqS_12 zqR_11 zqI_5))) rfl rfl rfl rfl rfl (Nat.le_of_ble_eq_true rfl) (Nat.le_of_ble_eq_true rfl) (zct_11 L xs (d + 2)) rfl) ?_
  refine Eq.trans (zmE_pures (c' := (92, [some (zr 0)], [], (zPW L xs 13 253 zqS_12 zqR_12 zqI_5))) 1 rfl) ?_
  refine Eq.trans (zmE_pures (c' := (100, [some (zr 0)], [zi 640, zr 13, zr 13, zr 0], (zPW L xs 14 257 zqS_13 zqR_12 zqI_5))) 4 rfl) ?_
  refine Eq.trans (zmE_callVd (r := (none, (zPW L xs 17 2177 zqS_15 zqR_14 zqI_5))) (c' := (103, [some (zr 0)], [zr 13, zr 0], (zPW L xs 17 2177 zqS_15 zqR_14 zqI_5))) rfl rfl rfl rfl rfl (Nat.le_of_ble_eq_true rfl) (Nat.le_of_ble_eq_true rfl) (zct_12 L xs (d + 1)) rfl) ?_
  refine Eq.trans (zmE_pures (c' := (106, [some (zr 0)], [], (zPW L xs 17 2177 zqS_15 zqR_15 zqI_5))) 1 rfl) ?_
  refine Eq.trans (zmE_pures (c' := (111, [some (zr 0)], [zr 17, zr 17, zr 0], (zPW L xs 18 2178 zqS_16 zqR_15 zqI_5))) 3 rfl) ?_
  refine Eq.trans (zmE_callVd (r := (none, (zPW L xs 19 5250 zqS_17 zqR_16 zqI_5))) (c' := (114, [some (zr 0)], [zr 17, zr 0], (zPW L xs 19 5250 zqS_17 zqR_16 zqI_5))) rfl rfl rfl rfl rfl (Nat.le_of_ble_eq_true rfl) (Nat.le_of_ble_eq_true rfl) (zct_14 L xs (d + 2)) rfl) ?_
  refine Eq.trans (zmE_pures (c' := (117, [some (zr 0)], [], (zPW L xs 19 5250 zqS_17 zqR_17 zqI_5))) 1 rfl) ?_
  refine Eq.trans (zmE_pures (c' := (127, [some (zr 0)], [zr 19, zr 19, zr 0], (zPW L xs 20 5256 zqS_18 zqR_17 zqI_6))) 8 rfl) ?_
  refine Eq.trans (zmE_pures (c' := (135, [some (zr 0)], [zr 19, zr 19, zr 0], (zPW L xs 20 5256 zqS_18 zqR_17 zqI_7))) 8 rfl) ?_
  rfl
set_option maxRecDepth 20000 in
theorem zct_1_3 (L : Nat) (xs : Nat → Int32) (d : Nat) : zmE (zmD zP (d + 3)) zc_0 (135, [some (zr 0)], [zr 19, zr 19, zr 0], (zPW L xs 20 5256 zqS_18 zqR_17 zqI_7)) = zmE (zmD zP (d + 3)) zc_0 (179, [some (zr 0)], [zr 42, zr 0], (zPW L xs 64 13847 zqS_57 zqR_57 zqI_28)) := by
  refine Eq.trans (zmE_pures (c' := (143, [some (zr 0)], [zr 19, zr 19, zr 0], (zPW L xs 20 5256 zqS_18 zqR_17 zqI_8))) 8 rfl) ?_
  refine Eq.trans (zmE_pures (c' := (153, [some (zr 0)], [zr 20, zr 0], (zPW L xs 21 5262 zqS_19 zqR_18 zqI_9))) 6 rfl) ?_
  refine Eq.trans (zmE_pures (c' := (154, [some (zr 0)], [zr 20, zr 20, zr 0], (zPW L xs 21 5262 zqS_19 zqR_18 zqI_9))) 1 rfl) ?_
  refine Eq.trans (zmE_callVd (r := (none, (zPW L xs 23 6594 zqS_21 zqR_20 zqI_9))) (c' := (157, [some (zr 0)], [zr 20, zr 0], (zPW L xs 23 6594 zqS_21 zqR_20 zqI_9))) rfl rfl rfl rfl rfl (Nat.le_of_ble_eq_true rfl) (Nat.le_of_ble_eq_true rfl) (zct_15 L xs (d + 2)) rfl) ?_
  refine Eq.trans (zmE_pures (c' := (160, [some (zr 0)], [], (zPW L xs 23 6594 zqS_21 zqR_21 zqI_9))) 1 rfl) ?_
  refine Eq.trans (zmE_pures (c' := (165, [some (zr 0)], [zr 23, zr 23, zr 0], (zPW L xs 24 6606 zqS_22 zqR_21 zqI_9))) 3 rfl) ?_
  refine Eq.trans (zmE_callVd (r := (none, (zPW L xs 42 13690 zqS_36 zqR_37 zqI_14))) (c' := (168, [some (zr 0)], [zr 23, zr 0], (zPW L xs 42 13690 zqS_36 zqR_37 zqI_14))) rfl rfl rfl rfl rfl (Nat.le_of_ble_eq_true rfl) (Nat.le_of_ble_eq_true rfl) (zct_16 L xs d) rfl) ?_
  refine Eq.trans (zmE_pures (c' := (171, [some (zr 0)], [], (zPW L xs 42 13690 zqS_36 zqR_38 zqI_14))) 1 rfl) ?_
  refine Eq.trans (zmE_pures (c' := (176, [some (zr 0)], [zr 42, zr 42, zr 0], (zPW L xs 43 13697 zqS_37 zqR_38 zqI_14))) 3 rfl) ?_
  refine Eq.trans (zmE_callVd (r := (none, (zPW L xs 64 13847 zqS_57 zqR_57 zqI_28))) (c' := (179, [some (zr 0)], [zr 42, zr 0], (zPW L xs 64 13847 zqS_57 zqR_57 zqI_28))) rfl rfl rfl rfl rfl (Nat.le_of_ble_eq_true rfl) (Nat.le_of_ble_eq_true rfl) (zct_25 L xs d) rfl) ?_
  rfl
set_option maxRecDepth 20000 in
theorem zct_1_4 (L : Nat) (xs : Nat → Int32) (d : Nat) : zmE (zmD zP (d + 3)) zc_0 (179, [some (zr 0)], [zr 42, zr 0], (zPW L xs 64 13847 zqS_57 zqR_57 zqI_28)) = zmE (zmD zP (d + 3)) zc_0 (218, [some (zr 0)], [zr 89, zr 0], (zPW L xs 94 14780 zqS_80 zqR_82 zqI_34)) := by
  refine Eq.trans (zmE_pures (c' := (182, [some (zr 0)], [], (zPW L xs 64 13847 zqS_57 zqR_58 zqI_28))) 1 rfl) ?_
  refine Eq.trans (zmE_pures (c' := (187, [some (zr 0)], [zr 64, zr 64, zr 0], (zPW L xs 65 13856 zqS_58 zqR_58 zqI_28))) 3 rfl) ?_
  refine Eq.trans (zmE_callVd (r := (none, (zPW L xs 89 14648 zqS_76 zqR_77 zqI_34))) (c' := (190, [some (zr 0)], [zr 64, zr 0], (zPW L xs 89 14648 zqS_76 zqR_77 zqI_34))) rfl rfl rfl rfl rfl (Nat.le_of_ble_eq_true rfl) (Nat.le_of_ble_eq_true rfl) (zct_41 L xs d) rfl) ?_
  refine Eq.trans (zmE_pures (c' := (193, [some (zr 0)], [], (zPW L xs 89 14648 zqS_76 zqR_78 zqI_34))) 1 rfl) ?_
  refine Eq.trans (zmE_pures (c' := (204, [some (zr 0)], [zr 90, zr 90, zi 0, zr 89, zr 89, zr 0], (zPW L xs 91 14656 zqS_77 zqR_78 zqI_34))) 7 rfl) ?_
  refine Eq.trans (zmE_callVd (r := (none, (zPW L xs 92 14716 zqS_78 zqR_79 zqI_34))) (c' := (207, [some (zr 0)], [zr 90, zi 0, zr 89, zr 89, zr 0], (zPW L xs 92 14716 zqS_78 zqR_79 zqI_34))) rfl rfl rfl rfl rfl (Nat.le_of_ble_eq_true rfl) (Nat.le_of_ble_eq_true rfl) (zct_51 L xs (d + 2)) rfl) ?_
  refine Eq.trans (zmE_pures (c' := (208, [some (zr 0)], [zr 89, zr 0], (zPW L xs 92 14716 zqS_78 zqR_80 zqI_34))) 1 rfl) ?_
  refine Eq.trans (zmE_pures (c' := (214, [some (zr 0)], [zr 92, zr 92, zi 1, zr 89, zr 89, zr 0], (zPW L xs 93 14720 zqS_79 zqR_80 zqI_34))) 4 rfl) ?_
  refine Eq.trans (zmE_callVd (r := (none, (zPW L xs 94 14780 zqS_80 zqR_81 zqI_34))) (c' := (217, [some (zr 0)], [zr 92, zi 1, zr 89, zr 89, zr 0], (zPW L xs 94 14780 zqS_80 zqR_81 zqI_34))) rfl rfl rfl rfl rfl (Nat.le_of_ble_eq_true rfl) (Nat.le_of_ble_eq_true rfl) (zct_52 L xs (d + 2)) rfl) ?_
  refine Eq.trans (zmE_pures (c' := (218, [some (zr 0)], [zr 89, zr 0], (zPW L xs 94 14780 zqS_80 zqR_82 zqI_34))) 1 rfl) ?_
  rfl
set_option maxRecDepth 20000 in
theorem zct_1 (L : Nat) (xs : Nat → Int32) (d : Nat) : zmD zP (d + 4) 0 [zr 0] (zPW L xs 1 17 zqS_1 zqR_0 zqI_0) = some (none, (zPW L xs 98 14908 zqS_84 zqR_87 zqI_34)) := by
  refine (show _ = zmE (zmD zP (d + 3)) zc_0 (0, [some (zr 0)], [], (zPW L xs 1 17 zqS_1 zqR_0 zqI_0)) from rfl).trans ?_
  refine Eq.trans (zct_1_0 L xs d) ?_
  refine Eq.trans (zct_1_1 L xs d) ?_
  refine Eq.trans (zct_1_2 L xs d) ?_
  refine Eq.trans (zct_1_3 L xs d) ?_
  refine Eq.trans (zct_1_4 L xs d) ?_
  refine Eq.trans (zmE_pures (c' := (224, [some (zr 0)], [zr 94, zr 94, zi 2, zr 89, zr 89, zr 0], (zPW L xs 95 14784 zqS_81 zqR_82 zqI_34))) 4 rfl) ?_
  refine Eq.trans (zmE_callVd (r := (none, (zPW L xs 96 14844 zqS_82 zqR_83 zqI_34))) (c' := (227, [some (zr 0)], [zr 94, zi 2, zr 89, zr 89, zr 0], (zPW L xs 96 14844 zqS_82 zqR_83 zqI_34))) rfl rfl rfl rfl rfl (Nat.le_of_ble_eq_true rfl) (Nat.le_of_ble_eq_true rfl) (zct_53 L xs (d + 2)) rfl) ?_
  refine Eq.trans (zmE_pures (c' := (228, [some (zr 0)], [zr 89, zr 0], (zPW L xs 96 14844 zqS_82 zqR_84 zqI_34))) 1 rfl) ?_
  refine Eq.trans (zmE_pures (c' := (234, [some (zr 0)], [zr 96, zr 96, zi 3, zr 89, zr 89, zr 0], (zPW L xs 97 14848 zqS_83 zqR_84 zqI_34))) 4 rfl) ?_
  refine Eq.trans (zmE_callVd (r := (none, (zPW L xs 98 14908 zqS_84 zqR_85 zqI_34))) (c' := (237, [some (zr 0)], [zr 96, zi 3, zr 89, zr 89, zr 0], (zPW L xs 98 14908 zqS_84 zqR_85 zqI_34))) rfl rfl rfl rfl rfl (Nat.le_of_ble_eq_true rfl) (Nat.le_of_ble_eq_true rfl) (zct_54 L xs (d + 2)) rfl) ?_
  refine Eq.trans (zmE_pures (c' := (238, [some (zr 0)], [zr 89, zr 0], (zPW L xs 98 14908 zqS_84 zqR_86 zqI_34))) 1 rfl) ?_
  refine Eq.trans (zmE_pures (c' := (241, [some (zr 0)], [], (zPW L xs 98 14908 zqS_84 zqR_87 zqI_34))) 1 rfl) ?_
  exact zmE_ret rfl
set_option maxRecDepth 20000 in
theorem zct_59 (L : Nat) (xs : Nat → Int32) (d : Nat) : zmD zP (d + 1) 197 [zr 98, zi 0, zi 0] (zPW L xs 118 31163 zqS_98 zqR_100 zqI_110) = some (some (zi (-1)), (zPW L xs 118 31163 zqS_98 zqR_100 zqI_110)) := by
  refine (show _ = zmE (zmD zP (d + 0)) zc_197 (0, [some (zr 98), some (zi 0), some (zi 0)], [], (zPW L xs 118 31163 zqS_98 zqR_100 zqI_110)) from rfl).trans ?_
  rw [zb_197_0]
  have h1 : zGR (zPW L xs 118 31163 zqS_98 zqR_100 zqI_110) 98 12 6 = some 104 := rfl
  have h3 : (zPW L xs 118 31163 zqS_98 zqR_100 zqI_110).2.2.2.2 104 0 = 0 := by rfl
  have h4 : (zPW L xs 118 31163 zqS_98 zqR_100 zqI_110).2.2.1 104 = (100, 3) := by rfl
  have h2 : zAI (zPW L xs 118 31163 zqS_98 zqR_100 zqI_110) 100 104 0 = some 0 := by
    unfold zAI
    rw [h3, h4]
    rfl
  rw [h1]
  dsimp only [Option.bind]
  rw [h2]
  rfl
set_option maxRecDepth 20000 in
theorem zct_60 (L : Nat) (xs : Nat → Int32) (d : Nat) : zmD zP (d + 1) 199 [zi (-1)] (zPW L xs 118 31163 zqS_98 zqR_100 zqI_110) = some (some (zi 0), (zPW L xs 118 31163 zqS_98 zqR_100 zqI_110)) := by
  refine (show _ = zmE (zmD zP (d + 0)) zc_199 (0, [some (zi (-1))], [], (zPW L xs 118 31163 zqS_98 zqR_100 zqI_110)) from rfl).trans ?_
  refine Eq.trans (zmE_pures (c' := (244, [some (zi (-1))], [zi 0], (zPW L xs 118 31163 zqS_98 zqR_100 zqI_110))) 3 rfl) ?_
  exact zmE_ret rfl
set_option maxRecDepth 20000 in
theorem zct_61 (L : Nat) (xs : Nat → Int32) (d : Nat) : zmD zP (d + 1) 201 [zl (-1), zl 49, zl 56] (zPW L xs 118 31163 zqS_98 zqR_100 zqI_110) = some (some (zi 0), (zPW L xs 118 31163 zqS_98 zqR_100 zqI_110)) := by
  refine (show _ = zmE (zmD zP (d + 0)) zc_201 (0, [some (zl (-1)), none, some (zl 49), none, some (zl 56), none], [], (zPW L xs 118 31163 zqS_98 zqR_100 zqI_110)) from rfl).trans ?_
  refine Eq.trans (zmE_pures (c' := (18, [some (zl (-1)), none, some (zl 49), none, some (zl 56), none], [zi 0], (zPW L xs 118 31163 zqS_98 zqR_100 zqI_110))) 5 rfl) ?_
  exact zmE_ret rfl
set_option maxRecDepth 20000 in
theorem zct_58 (L : Nat) (xs : Nat → Int32) (d : Nat) : zmD zP (d + 2) 196 [zr 98, zi 7] (zPW L xs 118 31163 zqS_98 zqR_100 zqI_110) = some (some (zi 0), (zPW L xs 118 31163 zqS_98 zqR_100 zqI_110)) := by
  refine (show _ = zmE (zmD zP (d + 1)) zc_196 (0, [some (zr 98), some (zi 7), none, none, none, none, none], [], (zPW L xs 118 31163 zqS_98 zqR_100 zqI_110)) from rfl).trans ?_
  refine Eq.trans (zmE_pures (c' := (11, [some (zr 98), some (zi 7), some (zi 0), none, none, none, none], [zr 98, zi 0, zr 98], (zPW L xs 118 31163 zqS_98 zqR_100 zqI_110))) 8 rfl) ?_
  refine Eq.trans (zmE_pures (c' := (14, [some (zr 98), some (zi 7), some (zi 0), none, none, none, none], [zi 0, zi 0, zr 98], (zPW L xs 118 31163 zqS_98 zqR_100 zqI_110))) 1 rfl) ?_
  refine Eq.trans (zmE_callVd (r := (some (zi (-1)), (zPW L xs 118 31163 zqS_98 zqR_100 zqI_110))) (c' := (17, [some (zr 98), some (zi 7), some (zi 0), none, none, none, none], [zi (-1)], (zPW L xs 118 31163 zqS_98 zqR_100 zqI_110))) rfl rfl rfl rfl rfl (Nat.le_of_ble_eq_true rfl) (Nat.le_of_ble_eq_true rfl) (zct_59 L xs d) rfl) ?_
  refine Eq.trans (zmE_pures (c' := (19, [some (zr 98), some (zi 7), some (zi 0), some (zi (-1)), none, none, none], [zi (-1)], (zPW L xs 118 31163 zqS_98 zqR_100 zqI_110))) 2 rfl) ?_
  refine Eq.trans (zmE_callSd (r := (some (zi 0), (zPW L xs 118 31163 zqS_98 zqR_100 zqI_110))) (c' := (22, [some (zr 98), some (zi 7), some (zi 0), some (zi (-1)), none, none, none], [zi 0], (zPW L xs 118 31163 zqS_98 zqR_100 zqI_110))) rfl rfl rfl (Nat.le_of_ble_eq_true rfl) (Nat.le_of_ble_eq_true rfl) (zct_60 L xs d) rfl) ?_
  refine Eq.trans (zmE_pures (c' := (52, [some (zr 98), some (zi 7), some (zi 0), some (zi (-1)), some (zi 0), none, none], [zi 0], (zPW L xs 118 31163 zqS_98 zqR_100 zqI_110))) 8 rfl) ?_
  refine Eq.trans (zmE_pures (c' := (62, [some (zr 98), some (zi 7), some (zi 0), some (zi (-1)), some (zi 0), some (zi 0), none], [zl 56, zl 49, zl (-1)], (zPW L xs 118 31163 zqS_98 zqR_100 zqI_110))) 5 rfl) ?_
  refine Eq.trans (zmE_callSd (r := (some (zi 0), (zPW L xs 118 31163 zqS_98 zqR_100 zqI_110))) (c' := (65, [some (zr 98), some (zi 7), some (zi 0), some (zi (-1)), some (zi 0), some (zi 0), none], [zi 0], (zPW L xs 118 31163 zqS_98 zqR_100 zqI_110))) rfl rfl rfl (Nat.le_of_ble_eq_true rfl) (Nat.le_of_ble_eq_true rfl) (zct_61 L xs d) rfl) ?_
  refine Eq.trans (zmE_pures (c' := (103, [some (zr 98), some (zi 7), some (zi 0), some (zi (-1)), some (zi 0), some (zi 0), some (zi 0)], [zi 0], (zPW L xs 118 31163 zqS_98 zqR_100 zqI_110))) 8 rfl) ?_
  exact zmE_ret rfl
set_option maxRecDepth 20000 in
theorem zct_57_0 (L : Nat) (xs : Nat → Int32) (d : Nat) : zmE (zmD zP (d + 2)) zc_195 (0, [some (zr 98), none], [], (zPW L xs 118 31163 zqS_98 zqR_100 zqI_45)) = zmE (zmD zP (d + 2)) zc_195 (17, [some (zr 98), some (zi 7)], [zr 105], (zPW L xs 118 31163 zqS_98 zqR_100 zqI_53)) := by
  refine Eq.trans (zmE_pures (c' := (13, [some (zr 98), some (zi 0)], [], (zPW L xs 118 31163 zqS_98 zqR_100 zqI_46))) 8 rfl) ?_
  refine Eq.trans (zmE_pures (c' := (8, [some (zr 98), some (zi 1)], [zi 1], (zPW L xs 118 31163 zqS_98 zqR_100 zqI_47))) 8 rfl) ?_
  refine Eq.trans (zmE_pures (c' := (23, [some (zr 98), some (zi 2)], [], (zPW L xs 118 31163 zqS_98 zqR_100 zqI_48))) 8 rfl) ?_
  refine Eq.trans (zmE_pures (c' := (19, [some (zr 98), some (zi 2)], [zi 0, zi 2, zr 105], (zPW L xs 118 31163 zqS_98 zqR_100 zqI_48))) 8 rfl) ?_
  refine Eq.trans (zmE_pures (c' := (17, [some (zr 98), some (zi 3)], [zr 105], (zPW L xs 118 31163 zqS_98 zqR_100 zqI_49))) 8 rfl) ?_
  refine Eq.trans (zmE_pures (c' := (13, [some (zr 98), some (zi 4)], [], (zPW L xs 118 31163 zqS_98 zqR_100 zqI_50))) 8 rfl) ?_
  refine Eq.trans (zmE_pures (c' := (8, [some (zr 98), some (zi 5)], [zi 5], (zPW L xs 118 31163 zqS_98 zqR_100 zqI_51))) 8 rfl) ?_
  refine Eq.trans (zmE_pures (c' := (23, [some (zr 98), some (zi 6)], [], (zPW L xs 118 31163 zqS_98 zqR_100 zqI_52))) 8 rfl) ?_
  refine Eq.trans (zmE_pures (c' := (19, [some (zr 98), some (zi 6)], [zi 0, zi 6, zr 105], (zPW L xs 118 31163 zqS_98 zqR_100 zqI_52))) 8 rfl) ?_
  refine Eq.trans (zmE_pures (c' := (17, [some (zr 98), some (zi 7)], [zr 105], (zPW L xs 118 31163 zqS_98 zqR_100 zqI_53))) 8 rfl) ?_
  rfl
set_option maxRecDepth 20000 in
theorem zct_57_1 (L : Nat) (xs : Nat → Int32) (d : Nat) : zmE (zmD zP (d + 2)) zc_195 (17, [some (zr 98), some (zi 7)], [zr 105], (zPW L xs 118 31163 zqS_98 zqR_100 zqI_53)) = zmE (zmD zP (d + 2)) zc_195 (17, [some (zr 98), some (zi 15)], [zr 105], (zPW L xs 118 31163 zqS_98 zqR_100 zqI_61)) := by
  refine Eq.trans (zmE_pures (c' := (13, [some (zr 98), some (zi 8)], [], (zPW L xs 118 31163 zqS_98 zqR_100 zqI_54))) 8 rfl) ?_
  refine Eq.trans (zmE_pures (c' := (8, [some (zr 98), some (zi 9)], [zi 9], (zPW L xs 118 31163 zqS_98 zqR_100 zqI_55))) 8 rfl) ?_
  refine Eq.trans (zmE_pures (c' := (23, [some (zr 98), some (zi 10)], [], (zPW L xs 118 31163 zqS_98 zqR_100 zqI_56))) 8 rfl) ?_
  refine Eq.trans (zmE_pures (c' := (19, [some (zr 98), some (zi 10)], [zi 0, zi 10, zr 105], (zPW L xs 118 31163 zqS_98 zqR_100 zqI_56))) 8 rfl) ?_
  refine Eq.trans (zmE_pures (c' := (17, [some (zr 98), some (zi 11)], [zr 105], (zPW L xs 118 31163 zqS_98 zqR_100 zqI_57))) 8 rfl) ?_
  refine Eq.trans (zmE_pures (c' := (13, [some (zr 98), some (zi 12)], [], (zPW L xs 118 31163 zqS_98 zqR_100 zqI_58))) 8 rfl) ?_
  refine Eq.trans (zmE_pures (c' := (8, [some (zr 98), some (zi 13)], [zi 13], (zPW L xs 118 31163 zqS_98 zqR_100 zqI_59))) 8 rfl) ?_
  refine Eq.trans (zmE_pures (c' := (23, [some (zr 98), some (zi 14)], [], (zPW L xs 118 31163 zqS_98 zqR_100 zqI_60))) 8 rfl) ?_
  refine Eq.trans (zmE_pures (c' := (19, [some (zr 98), some (zi 14)], [zi 0, zi 14, zr 105], (zPW L xs 118 31163 zqS_98 zqR_100 zqI_60))) 8 rfl) ?_
  refine Eq.trans (zmE_pures (c' := (17, [some (zr 98), some (zi 15)], [zr 105], (zPW L xs 118 31163 zqS_98 zqR_100 zqI_61))) 8 rfl) ?_
  rfl
set_option maxRecDepth 20000 in
theorem zct_57_2 (L : Nat) (xs : Nat → Int32) (d : Nat) : zmE (zmD zP (d + 2)) zc_195 (17, [some (zr 98), some (zi 15)], [zr 105], (zPW L xs 118 31163 zqS_98 zqR_100 zqI_61)) = zmE (zmD zP (d + 2)) zc_195 (17, [some (zr 98), some (zi 23)], [zr 105], (zPW L xs 118 31163 zqS_98 zqR_100 zqI_69)) := by
  refine Eq.trans (zmE_pures (c' := (13, [some (zr 98), some (zi 16)], [], (zPW L xs 118 31163 zqS_98 zqR_100 zqI_62))) 8 rfl) ?_
  refine Eq.trans (zmE_pures (c' := (8, [some (zr 98), some (zi 17)], [zi 17], (zPW L xs 118 31163 zqS_98 zqR_100 zqI_63))) 8 rfl) ?_
  refine Eq.trans (zmE_pures (c' := (23, [some (zr 98), some (zi 18)], [], (zPW L xs 118 31163 zqS_98 zqR_100 zqI_64))) 8 rfl) ?_
  refine Eq.trans (zmE_pures (c' := (19, [some (zr 98), some (zi 18)], [zi 0, zi 18, zr 105], (zPW L xs 118 31163 zqS_98 zqR_100 zqI_64))) 8 rfl) ?_
  refine Eq.trans (zmE_pures (c' := (17, [some (zr 98), some (zi 19)], [zr 105], (zPW L xs 118 31163 zqS_98 zqR_100 zqI_65))) 8 rfl) ?_
  refine Eq.trans (zmE_pures (c' := (13, [some (zr 98), some (zi 20)], [], (zPW L xs 118 31163 zqS_98 zqR_100 zqI_66))) 8 rfl) ?_
  refine Eq.trans (zmE_pures (c' := (8, [some (zr 98), some (zi 21)], [zi 21], (zPW L xs 118 31163 zqS_98 zqR_100 zqI_67))) 8 rfl) ?_
  refine Eq.trans (zmE_pures (c' := (23, [some (zr 98), some (zi 22)], [], (zPW L xs 118 31163 zqS_98 zqR_100 zqI_68))) 8 rfl) ?_
  refine Eq.trans (zmE_pures (c' := (19, [some (zr 98), some (zi 22)], [zi 0, zi 22, zr 105], (zPW L xs 118 31163 zqS_98 zqR_100 zqI_68))) 8 rfl) ?_
  refine Eq.trans (zmE_pures (c' := (17, [some (zr 98), some (zi 23)], [zr 105], (zPW L xs 118 31163 zqS_98 zqR_100 zqI_69))) 8 rfl) ?_
  rfl
set_option maxRecDepth 20000 in
theorem zct_57_3 (L : Nat) (xs : Nat → Int32) (d : Nat) : zmE (zmD zP (d + 2)) zc_195 (17, [some (zr 98), some (zi 23)], [zr 105], (zPW L xs 118 31163 zqS_98 zqR_100 zqI_69)) = zmE (zmD zP (d + 2)) zc_195 (17, [some (zr 98), some (zi 31)], [zr 105], (zPW L xs 118 31163 zqS_98 zqR_100 zqI_77)) := by
  refine Eq.trans (zmE_pures (c' := (13, [some (zr 98), some (zi 24)], [], (zPW L xs 118 31163 zqS_98 zqR_100 zqI_70))) 8 rfl) ?_
  refine Eq.trans (zmE_pures (c' := (8, [some (zr 98), some (zi 25)], [zi 25], (zPW L xs 118 31163 zqS_98 zqR_100 zqI_71))) 8 rfl) ?_
  refine Eq.trans (zmE_pures (c' := (23, [some (zr 98), some (zi 26)], [], (zPW L xs 118 31163 zqS_98 zqR_100 zqI_72))) 8 rfl) ?_
  refine Eq.trans (zmE_pures (c' := (19, [some (zr 98), some (zi 26)], [zi 0, zi 26, zr 105], (zPW L xs 118 31163 zqS_98 zqR_100 zqI_72))) 8 rfl) ?_
  refine Eq.trans (zmE_pures (c' := (17, [some (zr 98), some (zi 27)], [zr 105], (zPW L xs 118 31163 zqS_98 zqR_100 zqI_73))) 8 rfl) ?_
  refine Eq.trans (zmE_pures (c' := (13, [some (zr 98), some (zi 28)], [], (zPW L xs 118 31163 zqS_98 zqR_100 zqI_74))) 8 rfl) ?_
  refine Eq.trans (zmE_pures (c' := (8, [some (zr 98), some (zi 29)], [zi 29], (zPW L xs 118 31163 zqS_98 zqR_100 zqI_75))) 8 rfl) ?_
  refine Eq.trans (zmE_pures (c' := (23, [some (zr 98), some (zi 30)], [], (zPW L xs 118 31163 zqS_98 zqR_100 zqI_76))) 8 rfl) ?_
  refine Eq.trans (zmE_pures (c' := (19, [some (zr 98), some (zi 30)], [zi 0, zi 30, zr 105], (zPW L xs 118 31163 zqS_98 zqR_100 zqI_76))) 8 rfl) ?_
  refine Eq.trans (zmE_pures (c' := (17, [some (zr 98), some (zi 31)], [zr 105], (zPW L xs 118 31163 zqS_98 zqR_100 zqI_77))) 8 rfl) ?_
  rfl
set_option maxRecDepth 20000 in
theorem zct_57_4 (L : Nat) (xs : Nat → Int32) (d : Nat) : zmE (zmD zP (d + 2)) zc_195 (17, [some (zr 98), some (zi 31)], [zr 105], (zPW L xs 118 31163 zqS_98 zqR_100 zqI_77)) = zmE (zmD zP (d + 2)) zc_195 (17, [some (zr 98), some (zi 39)], [zr 105], (zPW L xs 118 31163 zqS_98 zqR_100 zqI_85)) := by
  refine Eq.trans (zmE_pures (c' := (13, [some (zr 98), some (zi 32)], [], (zPW L xs 118 31163 zqS_98 zqR_100 zqI_78))) 8 rfl) ?_
  refine Eq.trans (zmE_pures (c' := (8, [some (zr 98), some (zi 33)], [zi 33], (zPW L xs 118 31163 zqS_98 zqR_100 zqI_79))) 8 rfl) ?_
  refine Eq.trans (zmE_pures (c' := (23, [some (zr 98), some (zi 34)], [], (zPW L xs 118 31163 zqS_98 zqR_100 zqI_80))) 8 rfl) ?_
  refine Eq.trans (zmE_pures (c' := (19, [some (zr 98), some (zi 34)], [zi 0, zi 34, zr 105], (zPW L xs 118 31163 zqS_98 zqR_100 zqI_80))) 8 rfl) ?_
  refine Eq.trans (zmE_pures (c' := (17, [some (zr 98), some (zi 35)], [zr 105], (zPW L xs 118 31163 zqS_98 zqR_100 zqI_81))) 8 rfl) ?_
  refine Eq.trans (zmE_pures (c' := (13, [some (zr 98), some (zi 36)], [], (zPW L xs 118 31163 zqS_98 zqR_100 zqI_82))) 8 rfl) ?_
  refine Eq.trans (zmE_pures (c' := (8, [some (zr 98), some (zi 37)], [zi 37], (zPW L xs 118 31163 zqS_98 zqR_100 zqI_83))) 8 rfl) ?_
  refine Eq.trans (zmE_pures (c' := (23, [some (zr 98), some (zi 38)], [], (zPW L xs 118 31163 zqS_98 zqR_100 zqI_84))) 8 rfl) ?_
  refine Eq.trans (zmE_pures (c' := (19, [some (zr 98), some (zi 38)], [zi 0, zi 38, zr 105], (zPW L xs 118 31163 zqS_98 zqR_100 zqI_84))) 8 rfl) ?_
  refine Eq.trans (zmE_pures (c' := (17, [some (zr 98), some (zi 39)], [zr 105], (zPW L xs 118 31163 zqS_98 zqR_100 zqI_85))) 8 rfl) ?_
  rfl
set_option maxRecDepth 20000 in
theorem zct_57_5 (L : Nat) (xs : Nat → Int32) (d : Nat) : zmE (zmD zP (d + 2)) zc_195 (17, [some (zr 98), some (zi 39)], [zr 105], (zPW L xs 118 31163 zqS_98 zqR_100 zqI_85)) = zmE (zmD zP (d + 2)) zc_195 (17, [some (zr 98), some (zi 47)], [zr 105], (zPW L xs 118 31163 zqS_98 zqR_100 zqI_93)) := by
  refine Eq.trans (zmE_pures (c' := (13, [some (zr 98), some (zi 40)], [], (zPW L xs 118 31163 zqS_98 zqR_100 zqI_86))) 8 rfl) ?_
  refine Eq.trans (zmE_pures (c' := (8, [some (zr 98), some (zi 41)], [zi 41], (zPW L xs 118 31163 zqS_98 zqR_100 zqI_87))) 8 rfl) ?_
  refine Eq.trans (zmE_pures (c' := (23, [some (zr 98), some (zi 42)], [], (zPW L xs 118 31163 zqS_98 zqR_100 zqI_88))) 8 rfl) ?_
  refine Eq.trans (zmE_pures (c' := (19, [some (zr 98), some (zi 42)], [zi 0, zi 42, zr 105], (zPW L xs 118 31163 zqS_98 zqR_100 zqI_88))) 8 rfl) ?_
  refine Eq.trans (zmE_pures (c' := (17, [some (zr 98), some (zi 43)], [zr 105], (zPW L xs 118 31163 zqS_98 zqR_100 zqI_89))) 8 rfl) ?_
  refine Eq.trans (zmE_pures (c' := (13, [some (zr 98), some (zi 44)], [], (zPW L xs 118 31163 zqS_98 zqR_100 zqI_90))) 8 rfl) ?_
  refine Eq.trans (zmE_pures (c' := (8, [some (zr 98), some (zi 45)], [zi 45], (zPW L xs 118 31163 zqS_98 zqR_100 zqI_91))) 8 rfl) ?_
  refine Eq.trans (zmE_pures (c' := (23, [some (zr 98), some (zi 46)], [], (zPW L xs 118 31163 zqS_98 zqR_100 zqI_92))) 8 rfl) ?_
  refine Eq.trans (zmE_pures (c' := (19, [some (zr 98), some (zi 46)], [zi 0, zi 46, zr 105], (zPW L xs 118 31163 zqS_98 zqR_100 zqI_92))) 8 rfl) ?_
  refine Eq.trans (zmE_pures (c' := (17, [some (zr 98), some (zi 47)], [zr 105], (zPW L xs 118 31163 zqS_98 zqR_100 zqI_93))) 8 rfl) ?_
  rfl
set_option maxRecDepth 20000 in
theorem zct_57_6 (L : Nat) (xs : Nat → Int32) (d : Nat) : zmE (zmD zP (d + 2)) zc_195 (17, [some (zr 98), some (zi 47)], [zr 105], (zPW L xs 118 31163 zqS_98 zqR_100 zqI_93)) = zmE (zmD zP (d + 2)) zc_195 (17, [some (zr 98), some (zi 55)], [zr 105], (zPW L xs 118 31163 zqS_98 zqR_100 zqI_101)) := by
  refine Eq.trans (zmE_pures (c' := (13, [some (zr 98), some (zi 48)], [], (zPW L xs 118 31163 zqS_98 zqR_100 zqI_94))) 8 rfl) ?_
  refine Eq.trans (zmE_pures (c' := (8, [some (zr 98), some (zi 49)], [zi 49], (zPW L xs 118 31163 zqS_98 zqR_100 zqI_95))) 8 rfl) ?_
  refine Eq.trans (zmE_pures (c' := (23, [some (zr 98), some (zi 50)], [], (zPW L xs 118 31163 zqS_98 zqR_100 zqI_96))) 8 rfl) ?_
  refine Eq.trans (zmE_pures (c' := (19, [some (zr 98), some (zi 50)], [zi 0, zi 50, zr 105], (zPW L xs 118 31163 zqS_98 zqR_100 zqI_96))) 8 rfl) ?_
  refine Eq.trans (zmE_pures (c' := (17, [some (zr 98), some (zi 51)], [zr 105], (zPW L xs 118 31163 zqS_98 zqR_100 zqI_97))) 8 rfl) ?_
  refine Eq.trans (zmE_pures (c' := (13, [some (zr 98), some (zi 52)], [], (zPW L xs 118 31163 zqS_98 zqR_100 zqI_98))) 8 rfl) ?_
  refine Eq.trans (zmE_pures (c' := (8, [some (zr 98), some (zi 53)], [zi 53], (zPW L xs 118 31163 zqS_98 zqR_100 zqI_99))) 8 rfl) ?_
  refine Eq.trans (zmE_pures (c' := (23, [some (zr 98), some (zi 54)], [], (zPW L xs 118 31163 zqS_98 zqR_100 zqI_100))) 8 rfl) ?_
  refine Eq.trans (zmE_pures (c' := (19, [some (zr 98), some (zi 54)], [zi 0, zi 54, zr 105], (zPW L xs 118 31163 zqS_98 zqR_100 zqI_100))) 8 rfl) ?_
  refine Eq.trans (zmE_pures (c' := (17, [some (zr 98), some (zi 55)], [zr 105], (zPW L xs 118 31163 zqS_98 zqR_100 zqI_101))) 8 rfl) ?_
  rfl
set_option maxRecDepth 20000 in
theorem zct_57_7 (L : Nat) (xs : Nat → Int32) (d : Nat) : zmE (zmD zP (d + 2)) zc_195 (17, [some (zr 98), some (zi 55)], [zr 105], (zPW L xs 118 31163 zqS_98 zqR_100 zqI_101)) = zmE (zmD zP (d + 2)) zc_195 (17, [some (zr 98), some (zi 63)], [zr 105], (zPW L xs 118 31163 zqS_98 zqR_100 zqI_109)) := by
  refine Eq.trans (zmE_pures (c' := (13, [some (zr 98), some (zi 56)], [], (zPW L xs 118 31163 zqS_98 zqR_100 zqI_102))) 8 rfl) ?_
  refine Eq.trans (zmE_pures (c' := (8, [some (zr 98), some (zi 57)], [zi 57], (zPW L xs 118 31163 zqS_98 zqR_100 zqI_103))) 8 rfl) ?_
  refine Eq.trans (zmE_pures (c' := (23, [some (zr 98), some (zi 58)], [], (zPW L xs 118 31163 zqS_98 zqR_100 zqI_104))) 8 rfl) ?_
  refine Eq.trans (zmE_pures (c' := (19, [some (zr 98), some (zi 58)], [zi 0, zi 58, zr 105], (zPW L xs 118 31163 zqS_98 zqR_100 zqI_104))) 8 rfl) ?_
  refine Eq.trans (zmE_pures (c' := (17, [some (zr 98), some (zi 59)], [zr 105], (zPW L xs 118 31163 zqS_98 zqR_100 zqI_105))) 8 rfl) ?_
  refine Eq.trans (zmE_pures (c' := (13, [some (zr 98), some (zi 60)], [], (zPW L xs 118 31163 zqS_98 zqR_100 zqI_106))) 8 rfl) ?_
  refine Eq.trans (zmE_pures (c' := (8, [some (zr 98), some (zi 61)], [zi 61], (zPW L xs 118 31163 zqS_98 zqR_100 zqI_107))) 8 rfl) ?_
  refine Eq.trans (zmE_pures (c' := (23, [some (zr 98), some (zi 62)], [], (zPW L xs 118 31163 zqS_98 zqR_100 zqI_108))) 8 rfl) ?_
  refine Eq.trans (zmE_pures (c' := (19, [some (zr 98), some (zi 62)], [zi 0, zi 62, zr 105], (zPW L xs 118 31163 zqS_98 zqR_100 zqI_108))) 8 rfl) ?_
  refine Eq.trans (zmE_pures (c' := (17, [some (zr 98), some (zi 63)], [zr 105], (zPW L xs 118 31163 zqS_98 zqR_100 zqI_109))) 8 rfl) ?_
  rfl
set_option maxRecDepth 20000 in
theorem zct_57 (L : Nat) (xs : Nat → Int32) (d : Nat) : zmD zP (d + 3) 195 [zr 98] (zPW L xs 118 31163 zqS_98 zqR_100 zqI_45) = some (some (zi 0), (zPW L xs 118 31163 zqS_98 zqR_100 zqI_110)) := by
  refine (show _ = zmE (zmD zP (d + 2)) zc_195 (0, [some (zr 98), none], [], (zPW L xs 118 31163 zqS_98 zqR_100 zqI_45)) from rfl).trans ?_
  refine Eq.trans (zct_57_0 L xs d) ?_
  refine Eq.trans (zct_57_1 L xs d) ?_
  refine Eq.trans (zct_57_2 L xs d) ?_
  refine Eq.trans (zct_57_3 L xs d) ?_
  refine Eq.trans (zct_57_4 L xs d) ?_
  refine Eq.trans (zct_57_5 L xs d) ?_
  refine Eq.trans (zct_57_6 L xs d) ?_
  refine Eq.trans (zct_57_7 L xs d) ?_
  refine Eq.trans (zmE_pures (c' := (26, [some (zr 98), some (zi 64)], [], (zPW L xs 118 31163 zqS_98 zqR_100 zqI_110))) 8 rfl) ?_
  refine Eq.trans (zmE_pures (c' := (35, [some (zr 98), some (zi 7)], [zi 7, zr 98], (zPW L xs 118 31163 zqS_98 zqR_100 zqI_110))) 6 rfl) ?_
  refine Eq.trans (zmE_callVd (r := (some (zi 0), (zPW L xs 118 31163 zqS_98 zqR_100 zqI_110))) (c' := (38, [some (zr 98), some (zi 7)], [zi 0], (zPW L xs 118 31163 zqS_98 zqR_100 zqI_110))) rfl rfl rfl rfl rfl (Nat.le_of_ble_eq_true rfl) (Nat.le_of_ble_eq_true rfl) (zct_58 L xs d) rfl) ?_
  refine Eq.trans (zmE_pures (c' := (63, [some (zr 98), some (zi 7)], [zi 0], (zPW L xs 118 31163 zqS_98 zqR_100 zqI_110))) 3 rfl) ?_
  exact zmE_ret rfl
set_option maxRecDepth 20000 in
theorem zct_56_0 (L : Nat) (xs : Nat → Int32) (d : Nat) : zmE (zmD zP (d + 3)) zc_194 (0, [some (zr 98), none, none], [], (zPW L xs 118 31163 zqS_98 zqR_100 zqI_44)) = zmE (zmD zP (d + 3)) zc_194 (37, [some (zr 98), some (zi 0), some (zi 3)], [zi 3, zr 105], (zPW L xs 118 31163 zqS_98 zqR_100 zqI_113)) := by
  refine Eq.trans (zmE_pures (c' := (6, [some (zr 98), none, none], [zr 98], (zPW L xs 118 31163 zqS_98 zqR_100 zqI_45))) 4 rfl) ?_
  refine Eq.trans (zmE_callVd (r := (some (zi 0), (zPW L xs 118 31163 zqS_98 zqR_100 zqI_110))) (c' := (9, [some (zr 98), none, none], [zi 0], (zPW L xs 118 31163 zqS_98 zqR_100 zqI_110))) rfl rfl rfl rfl rfl (Nat.le_of_ble_eq_true rfl) (Nat.le_of_ble_eq_true rfl) (zct_57 L xs d) rfl) ?_
  refine Eq.trans (zmE_pures (c' := (10, [some (zr 98), some (zi 0), none], [], (zPW L xs 118 31163 zqS_98 zqR_100 zqI_110))) 1 rfl) ?_
  refine Eq.trans (zmE_pures (c' := (23, [some (zr 98), some (zi 0), some (zi 0)], [], (zPW L xs 118 31163 zqS_98 zqR_100 zqI_110))) 8 rfl) ?_
  refine Eq.trans (zmE_pures (c' := (50, [some (zr 98), some (zi 0), some (zi 0)], [], (zPW L xs 118 31163 zqS_98 zqR_100 zqI_111))) 8 rfl) ?_
  refine Eq.trans (zmE_pures (c' := (28, [some (zr 98), some (zi 0), some (zi 1)], [zi 1, zr 105], (zPW L xs 118 31163 zqS_98 zqR_100 zqI_111))) 8 rfl) ?_
  refine Eq.trans (zmE_pures (c' := (53, [some (zr 98), some (zi 0), some (zi 2)], [], (zPW L xs 118 31163 zqS_98 zqR_100 zqI_112))) 8 rfl) ?_
  refine Eq.trans (zmE_pures (c' := (29, [some (zr 98), some (zi 0), some (zi 2)], [zi 2, zi 2, zr 105], (zPW L xs 118 31163 zqS_98 zqR_100 zqI_112))) 8 rfl) ?_
  refine Eq.trans (zmE_pures (c' := (17, [some (zr 98), some (zi 0), some (zi 3)], [], (zPW L xs 118 31163 zqS_98 zqR_100 zqI_113))) 8 rfl) ?_
  refine Eq.trans (zmE_pures (c' := (37, [some (zr 98), some (zi 0), some (zi 3)], [zi 3, zr 105], (zPW L xs 118 31163 zqS_98 zqR_100 zqI_113))) 8 rfl) ?_
  rfl
set_option maxRecDepth 20000 in
theorem zct_56_1 (L : Nat) (xs : Nat → Int32) (d : Nat) : zmE (zmD zP (d + 3)) zc_194 (37, [some (zr 98), some (zi 0), some (zi 3)], [zi 3, zr 105], (zPW L xs 118 31163 zqS_98 zqR_100 zqI_113)) = zmE (zmD zP (d + 3)) zc_194 (50, [some (zr 98), some (zi 0), some (zi 8)], [], (zPW L xs 118 31163 zqS_98 zqR_100 zqI_119)) := by
  refine Eq.trans (zmE_pures (c' := (18, [some (zr 98), some (zi 0), some (zi 4)], [zi 4], (zPW L xs 118 31163 zqS_98 zqR_100 zqI_114))) 8 rfl) ?_
  refine Eq.trans (zmE_pures (c' := (38, [some (zr 98), some (zi 0), some (zi 4)], [zi 4, zi 4, zr 105], (zPW L xs 118 31163 zqS_98 zqR_100 zqI_114))) 8 rfl) ?_
  refine Eq.trans (zmE_pures (c' := (20, [some (zr 98), some (zi 0), some (zi 5)], [zi 64, zi 5], (zPW L xs 118 31163 zqS_98 zqR_100 zqI_115))) 8 rfl) ?_
  refine Eq.trans (zmE_pures (c' := (40, [some (zr 98), some (zi 0), some (zi 5)], [zi 63, zi 5, zi 5, zr 105], (zPW L xs 118 31163 zqS_98 zqR_100 zqI_115))) 8 rfl) ?_
  refine Eq.trans (zmE_pures (c' := (23, [some (zr 98), some (zi 0), some (zi 6)], [], (zPW L xs 118 31163 zqS_98 zqR_100 zqI_116))) 8 rfl) ?_
  refine Eq.trans (zmE_pures (c' := (48, [some (zr 98), some (zi 0), some (zi 6)], [zi 6, zr 105], (zPW L xs 118 31163 zqS_98 zqR_100 zqI_116))) 8 rfl) ?_
  refine Eq.trans (zmE_pures (c' := (24, [some (zr 98), some (zi 0), some (zi 7)], [zr 98], (zPW L xs 118 31163 zqS_98 zqR_100 zqI_117))) 8 rfl) ?_
  refine Eq.trans (zmE_pures (c' := (49, [some (zr 98), some (zi 0), some (zi 7)], [zi 0, zi 7, zr 105], (zPW L xs 118 31163 zqS_98 zqR_100 zqI_117))) 8 rfl) ?_
  refine Eq.trans (zmE_pures (c' := (27, [some (zr 98), some (zi 0), some (zi 8)], [zr 105], (zPW L xs 118 31163 zqS_98 zqR_100 zqI_118))) 8 rfl) ?_
  refine Eq.trans (zmE_pures (c' := (50, [some (zr 98), some (zi 0), some (zi 8)], [], (zPW L xs 118 31163 zqS_98 zqR_100 zqI_119))) 8 rfl) ?_
  rfl
set_option maxRecDepth 20000 in
theorem zct_56_2 (L : Nat) (xs : Nat → Int32) (d : Nat) : zmE (zmD zP (d + 3)) zc_194 (50, [some (zr 98), some (zi 0), some (zi 8)], [], (zPW L xs 118 31163 zqS_98 zqR_100 zqI_119)) = zmE (zmD zP (d + 3)) zc_194 (23, [some (zr 98), some (zi 0), some (zi 14)], [], (zPW L xs 118 31163 zqS_98 zqR_100 zqI_124)) := by
  refine Eq.trans (zmE_pures (c' := (28, [some (zr 98), some (zi 0), some (zi 9)], [zi 9, zr 105], (zPW L xs 118 31163 zqS_98 zqR_100 zqI_119))) 8 rfl) ?_
  refine Eq.trans (zmE_pures (c' := (53, [some (zr 98), some (zi 0), some (zi 10)], [], (zPW L xs 118 31163 zqS_98 zqR_100 zqI_120))) 8 rfl) ?_
  refine Eq.trans (zmE_pures (c' := (29, [some (zr 98), some (zi 0), some (zi 10)], [zi 10, zi 10, zr 105], (zPW L xs 118 31163 zqS_98 zqR_100 zqI_120))) 8 rfl) ?_
  refine Eq.trans (zmE_pures (c' := (17, [some (zr 98), some (zi 0), some (zi 11)], [], (zPW L xs 118 31163 zqS_98 zqR_100 zqI_121))) 8 rfl) ?_
  refine Eq.trans (zmE_pures (c' := (37, [some (zr 98), some (zi 0), some (zi 11)], [zi 11, zr 105], (zPW L xs 118 31163 zqS_98 zqR_100 zqI_121))) 8 rfl) ?_
  refine Eq.trans (zmE_pures (c' := (18, [some (zr 98), some (zi 0), some (zi 12)], [zi 12], (zPW L xs 118 31163 zqS_98 zqR_100 zqI_122))) 8 rfl) ?_
  refine Eq.trans (zmE_pures (c' := (38, [some (zr 98), some (zi 0), some (zi 12)], [zi 12, zi 12, zr 105], (zPW L xs 118 31163 zqS_98 zqR_100 zqI_122))) 8 rfl) ?_
  refine Eq.trans (zmE_pures (c' := (20, [some (zr 98), some (zi 0), some (zi 13)], [zi 64, zi 13], (zPW L xs 118 31163 zqS_98 zqR_100 zqI_123))) 8 rfl) ?_
  refine Eq.trans (zmE_pures (c' := (40, [some (zr 98), some (zi 0), some (zi 13)], [zi 63, zi 13, zi 13, zr 105], (zPW L xs 118 31163 zqS_98 zqR_100 zqI_123))) 8 rfl) ?_
  refine Eq.trans (zmE_pures (c' := (23, [some (zr 98), some (zi 0), some (zi 14)], [], (zPW L xs 118 31163 zqS_98 zqR_100 zqI_124))) 8 rfl) ?_
  rfl
set_option maxRecDepth 20000 in
theorem zct_56_3 (L : Nat) (xs : Nat → Int32) (d : Nat) : zmE (zmD zP (d + 3)) zc_194 (23, [some (zr 98), some (zi 0), some (zi 14)], [], (zPW L xs 118 31163 zqS_98 zqR_100 zqI_124)) = zmE (zmD zP (d + 3)) zc_194 (37, [some (zr 98), some (zi 0), some (zi 19)], [zi 19, zr 105], (zPW L xs 118 31163 zqS_98 zqR_100 zqI_129)) := by
  refine Eq.trans (zmE_pures (c' := (48, [some (zr 98), some (zi 0), some (zi 14)], [zi 14, zr 105], (zPW L xs 118 31163 zqS_98 zqR_100 zqI_124))) 8 rfl) ?_
  refine Eq.trans (zmE_pures (c' := (24, [some (zr 98), some (zi 0), some (zi 15)], [zr 98], (zPW L xs 118 31163 zqS_98 zqR_100 zqI_125))) 8 rfl) ?_
  refine Eq.trans (zmE_pures (c' := (49, [some (zr 98), some (zi 0), some (zi 15)], [zi 0, zi 15, zr 105], (zPW L xs 118 31163 zqS_98 zqR_100 zqI_125))) 8 rfl) ?_
  refine Eq.trans (zmE_pures (c' := (27, [some (zr 98), some (zi 0), some (zi 16)], [zr 105], (zPW L xs 118 31163 zqS_98 zqR_100 zqI_126))) 8 rfl) ?_
  refine Eq.trans (zmE_pures (c' := (50, [some (zr 98), some (zi 0), some (zi 16)], [], (zPW L xs 118 31163 zqS_98 zqR_100 zqI_127))) 8 rfl) ?_
  refine Eq.trans (zmE_pures (c' := (28, [some (zr 98), some (zi 0), some (zi 17)], [zi 17, zr 105], (zPW L xs 118 31163 zqS_98 zqR_100 zqI_127))) 8 rfl) ?_
  refine Eq.trans (zmE_pures (c' := (53, [some (zr 98), some (zi 0), some (zi 18)], [], (zPW L xs 118 31163 zqS_98 zqR_100 zqI_128))) 8 rfl) ?_
  refine Eq.trans (zmE_pures (c' := (29, [some (zr 98), some (zi 0), some (zi 18)], [zi 18, zi 18, zr 105], (zPW L xs 118 31163 zqS_98 zqR_100 zqI_128))) 8 rfl) ?_
  refine Eq.trans (zmE_pures (c' := (17, [some (zr 98), some (zi 0), some (zi 19)], [], (zPW L xs 118 31163 zqS_98 zqR_100 zqI_129))) 8 rfl) ?_
  refine Eq.trans (zmE_pures (c' := (37, [some (zr 98), some (zi 0), some (zi 19)], [zi 19, zr 105], (zPW L xs 118 31163 zqS_98 zqR_100 zqI_129))) 8 rfl) ?_
  rfl
set_option maxRecDepth 20000 in
theorem zct_56_4 (L : Nat) (xs : Nat → Int32) (d : Nat) : zmE (zmD zP (d + 3)) zc_194 (37, [some (zr 98), some (zi 0), some (zi 19)], [zi 19, zr 105], (zPW L xs 118 31163 zqS_98 zqR_100 zqI_129)) = zmE (zmD zP (d + 3)) zc_194 (50, [some (zr 98), some (zi 0), some (zi 24)], [], (zPW L xs 118 31163 zqS_98 zqR_100 zqI_135)) := by
  refine Eq.trans (zmE_pures (c' := (18, [some (zr 98), some (zi 0), some (zi 20)], [zi 20], (zPW L xs 118 31163 zqS_98 zqR_100 zqI_130))) 8 rfl) ?_
  refine Eq.trans (zmE_pures (c' := (38, [some (zr 98), some (zi 0), some (zi 20)], [zi 20, zi 20, zr 105], (zPW L xs 118 31163 zqS_98 zqR_100 zqI_130))) 8 rfl) ?_
  refine Eq.trans (zmE_pures (c' := (20, [some (zr 98), some (zi 0), some (zi 21)], [zi 64, zi 21], (zPW L xs 118 31163 zqS_98 zqR_100 zqI_131))) 8 rfl) ?_
  refine Eq.trans (zmE_pures (c' := (40, [some (zr 98), some (zi 0), some (zi 21)], [zi 63, zi 21, zi 21, zr 105], (zPW L xs 118 31163 zqS_98 zqR_100 zqI_131))) 8 rfl) ?_
  refine Eq.trans (zmE_pures (c' := (23, [some (zr 98), some (zi 0), some (zi 22)], [], (zPW L xs 118 31163 zqS_98 zqR_100 zqI_132))) 8 rfl) ?_
  refine Eq.trans (zmE_pures (c' := (48, [some (zr 98), some (zi 0), some (zi 22)], [zi 22, zr 105], (zPW L xs 118 31163 zqS_98 zqR_100 zqI_132))) 8 rfl) ?_
  refine Eq.trans (zmE_pures (c' := (24, [some (zr 98), some (zi 0), some (zi 23)], [zr 98], (zPW L xs 118 31163 zqS_98 zqR_100 zqI_133))) 8 rfl) ?_
  refine Eq.trans (zmE_pures (c' := (49, [some (zr 98), some (zi 0), some (zi 23)], [zi 0, zi 23, zr 105], (zPW L xs 118 31163 zqS_98 zqR_100 zqI_133))) 8 rfl) ?_
  refine Eq.trans (zmE_pures (c' := (27, [some (zr 98), some (zi 0), some (zi 24)], [zr 105], (zPW L xs 118 31163 zqS_98 zqR_100 zqI_134))) 8 rfl) ?_
  refine Eq.trans (zmE_pures (c' := (50, [some (zr 98), some (zi 0), some (zi 24)], [], (zPW L xs 118 31163 zqS_98 zqR_100 zqI_135))) 8 rfl) ?_
  rfl
set_option maxRecDepth 20000 in
theorem zct_56_5 (L : Nat) (xs : Nat → Int32) (d : Nat) : zmE (zmD zP (d + 3)) zc_194 (50, [some (zr 98), some (zi 0), some (zi 24)], [], (zPW L xs 118 31163 zqS_98 zqR_100 zqI_135)) = zmE (zmD zP (d + 3)) zc_194 (23, [some (zr 98), some (zi 0), some (zi 30)], [], (zPW L xs 118 31163 zqS_98 zqR_100 zqI_140)) := by
  refine Eq.trans (zmE_pures (c' := (28, [some (zr 98), some (zi 0), some (zi 25)], [zi 25, zr 105], (zPW L xs 118 31163 zqS_98 zqR_100 zqI_135))) 8 rfl) ?_
  refine Eq.trans (zmE_pures (c' := (53, [some (zr 98), some (zi 0), some (zi 26)], [], (zPW L xs 118 31163 zqS_98 zqR_100 zqI_136))) 8 rfl) ?_
  refine Eq.trans (zmE_pures (c' := (29, [some (zr 98), some (zi 0), some (zi 26)], [zi 26, zi 26, zr 105], (zPW L xs 118 31163 zqS_98 zqR_100 zqI_136))) 8 rfl) ?_
  refine Eq.trans (zmE_pures (c' := (17, [some (zr 98), some (zi 0), some (zi 27)], [], (zPW L xs 118 31163 zqS_98 zqR_100 zqI_137))) 8 rfl) ?_
  refine Eq.trans (zmE_pures (c' := (37, [some (zr 98), some (zi 0), some (zi 27)], [zi 27, zr 105], (zPW L xs 118 31163 zqS_98 zqR_100 zqI_137))) 8 rfl) ?_
  refine Eq.trans (zmE_pures (c' := (18, [some (zr 98), some (zi 0), some (zi 28)], [zi 28], (zPW L xs 118 31163 zqS_98 zqR_100 zqI_138))) 8 rfl) ?_
  refine Eq.trans (zmE_pures (c' := (38, [some (zr 98), some (zi 0), some (zi 28)], [zi 28, zi 28, zr 105], (zPW L xs 118 31163 zqS_98 zqR_100 zqI_138))) 8 rfl) ?_
  refine Eq.trans (zmE_pures (c' := (20, [some (zr 98), some (zi 0), some (zi 29)], [zi 64, zi 29], (zPW L xs 118 31163 zqS_98 zqR_100 zqI_139))) 8 rfl) ?_
  refine Eq.trans (zmE_pures (c' := (40, [some (zr 98), some (zi 0), some (zi 29)], [zi 63, zi 29, zi 29, zr 105], (zPW L xs 118 31163 zqS_98 zqR_100 zqI_139))) 8 rfl) ?_
  refine Eq.trans (zmE_pures (c' := (23, [some (zr 98), some (zi 0), some (zi 30)], [], (zPW L xs 118 31163 zqS_98 zqR_100 zqI_140))) 8 rfl) ?_
  rfl
set_option maxRecDepth 20000 in
theorem zct_56_6 (L : Nat) (xs : Nat → Int32) (d : Nat) : zmE (zmD zP (d + 3)) zc_194 (23, [some (zr 98), some (zi 0), some (zi 30)], [], (zPW L xs 118 31163 zqS_98 zqR_100 zqI_140)) = zmE (zmD zP (d + 3)) zc_194 (37, [some (zr 98), some (zi 0), some (zi 35)], [zi 35, zr 105], (zPW L xs 118 31163 zqS_98 zqR_100 zqI_145)) := by
  refine Eq.trans (zmE_pures (c' := (48, [some (zr 98), some (zi 0), some (zi 30)], [zi 30, zr 105], (zPW L xs 118 31163 zqS_98 zqR_100 zqI_140))) 8 rfl) ?_
  refine Eq.trans (zmE_pures (c' := (24, [some (zr 98), some (zi 0), some (zi 31)], [zr 98], (zPW L xs 118 31163 zqS_98 zqR_100 zqI_141))) 8 rfl) ?_
  refine Eq.trans (zmE_pures (c' := (49, [some (zr 98), some (zi 0), some (zi 31)], [zi 0, zi 31, zr 105], (zPW L xs 118 31163 zqS_98 zqR_100 zqI_141))) 8 rfl) ?_
  refine Eq.trans (zmE_pures (c' := (27, [some (zr 98), some (zi 0), some (zi 32)], [zr 105], (zPW L xs 118 31163 zqS_98 zqR_100 zqI_142))) 8 rfl) ?_
  refine Eq.trans (zmE_pures (c' := (50, [some (zr 98), some (zi 0), some (zi 32)], [], (zPW L xs 118 31163 zqS_98 zqR_100 zqI_143))) 8 rfl) ?_
  refine Eq.trans (zmE_pures (c' := (28, [some (zr 98), some (zi 0), some (zi 33)], [zi 33, zr 105], (zPW L xs 118 31163 zqS_98 zqR_100 zqI_143))) 8 rfl) ?_
  refine Eq.trans (zmE_pures (c' := (53, [some (zr 98), some (zi 0), some (zi 34)], [], (zPW L xs 118 31163 zqS_98 zqR_100 zqI_144))) 8 rfl) ?_
  refine Eq.trans (zmE_pures (c' := (29, [some (zr 98), some (zi 0), some (zi 34)], [zi 34, zi 34, zr 105], (zPW L xs 118 31163 zqS_98 zqR_100 zqI_144))) 8 rfl) ?_
  refine Eq.trans (zmE_pures (c' := (17, [some (zr 98), some (zi 0), some (zi 35)], [], (zPW L xs 118 31163 zqS_98 zqR_100 zqI_145))) 8 rfl) ?_
  refine Eq.trans (zmE_pures (c' := (37, [some (zr 98), some (zi 0), some (zi 35)], [zi 35, zr 105], (zPW L xs 118 31163 zqS_98 zqR_100 zqI_145))) 8 rfl) ?_
  rfl
set_option maxRecDepth 20000 in
theorem zct_56_7 (L : Nat) (xs : Nat → Int32) (d : Nat) : zmE (zmD zP (d + 3)) zc_194 (37, [some (zr 98), some (zi 0), some (zi 35)], [zi 35, zr 105], (zPW L xs 118 31163 zqS_98 zqR_100 zqI_145)) = zmE (zmD zP (d + 3)) zc_194 (50, [some (zr 98), some (zi 0), some (zi 40)], [], (zPW L xs 118 31163 zqS_98 zqR_100 zqI_151)) := by
  refine Eq.trans (zmE_pures (c' := (18, [some (zr 98), some (zi 0), some (zi 36)], [zi 36], (zPW L xs 118 31163 zqS_98 zqR_100 zqI_146))) 8 rfl) ?_
  refine Eq.trans (zmE_pures (c' := (38, [some (zr 98), some (zi 0), some (zi 36)], [zi 36, zi 36, zr 105], (zPW L xs 118 31163 zqS_98 zqR_100 zqI_146))) 8 rfl) ?_
  refine Eq.trans (zmE_pures (c' := (20, [some (zr 98), some (zi 0), some (zi 37)], [zi 64, zi 37], (zPW L xs 118 31163 zqS_98 zqR_100 zqI_147))) 8 rfl) ?_
  refine Eq.trans (zmE_pures (c' := (40, [some (zr 98), some (zi 0), some (zi 37)], [zi 63, zi 37, zi 37, zr 105], (zPW L xs 118 31163 zqS_98 zqR_100 zqI_147))) 8 rfl) ?_
  refine Eq.trans (zmE_pures (c' := (23, [some (zr 98), some (zi 0), some (zi 38)], [], (zPW L xs 118 31163 zqS_98 zqR_100 zqI_148))) 8 rfl) ?_
  refine Eq.trans (zmE_pures (c' := (48, [some (zr 98), some (zi 0), some (zi 38)], [zi 38, zr 105], (zPW L xs 118 31163 zqS_98 zqR_100 zqI_148))) 8 rfl) ?_
  refine Eq.trans (zmE_pures (c' := (24, [some (zr 98), some (zi 0), some (zi 39)], [zr 98], (zPW L xs 118 31163 zqS_98 zqR_100 zqI_149))) 8 rfl) ?_
  refine Eq.trans (zmE_pures (c' := (49, [some (zr 98), some (zi 0), some (zi 39)], [zi 0, zi 39, zr 105], (zPW L xs 118 31163 zqS_98 zqR_100 zqI_149))) 8 rfl) ?_
  refine Eq.trans (zmE_pures (c' := (27, [some (zr 98), some (zi 0), some (zi 40)], [zr 105], (zPW L xs 118 31163 zqS_98 zqR_100 zqI_150))) 8 rfl) ?_
  refine Eq.trans (zmE_pures (c' := (50, [some (zr 98), some (zi 0), some (zi 40)], [], (zPW L xs 118 31163 zqS_98 zqR_100 zqI_151))) 8 rfl) ?_
  rfl
set_option maxRecDepth 20000 in
theorem zct_56_8 (L : Nat) (xs : Nat → Int32) (d : Nat) : zmE (zmD zP (d + 3)) zc_194 (50, [some (zr 98), some (zi 0), some (zi 40)], [], (zPW L xs 118 31163 zqS_98 zqR_100 zqI_151)) = zmE (zmD zP (d + 3)) zc_194 (23, [some (zr 98), some (zi 0), some (zi 46)], [], (zPW L xs 118 31163 zqS_98 zqR_100 zqI_156)) := by
  refine Eq.trans (zmE_pures (c' := (28, [some (zr 98), some (zi 0), some (zi 41)], [zi 41, zr 105], (zPW L xs 118 31163 zqS_98 zqR_100 zqI_151))) 8 rfl) ?_
  refine Eq.trans (zmE_pures (c' := (53, [some (zr 98), some (zi 0), some (zi 42)], [], (zPW L xs 118 31163 zqS_98 zqR_100 zqI_152))) 8 rfl) ?_
  refine Eq.trans (zmE_pures (c' := (29, [some (zr 98), some (zi 0), some (zi 42)], [zi 42, zi 42, zr 105], (zPW L xs 118 31163 zqS_98 zqR_100 zqI_152))) 8 rfl) ?_
  refine Eq.trans (zmE_pures (c' := (17, [some (zr 98), some (zi 0), some (zi 43)], [], (zPW L xs 118 31163 zqS_98 zqR_100 zqI_153))) 8 rfl) ?_
  refine Eq.trans (zmE_pures (c' := (37, [some (zr 98), some (zi 0), some (zi 43)], [zi 43, zr 105], (zPW L xs 118 31163 zqS_98 zqR_100 zqI_153))) 8 rfl) ?_
  refine Eq.trans (zmE_pures (c' := (18, [some (zr 98), some (zi 0), some (zi 44)], [zi 44], (zPW L xs 118 31163 zqS_98 zqR_100 zqI_154))) 8 rfl) ?_
  refine Eq.trans (zmE_pures (c' := (38, [some (zr 98), some (zi 0), some (zi 44)], [zi 44, zi 44, zr 105], (zPW L xs 118 31163 zqS_98 zqR_100 zqI_154))) 8 rfl) ?_
  refine Eq.trans (zmE_pures (c' := (20, [some (zr 98), some (zi 0), some (zi 45)], [zi 64, zi 45], (zPW L xs 118 31163 zqS_98 zqR_100 zqI_155))) 8 rfl) ?_
  refine Eq.trans (zmE_pures (c' := (40, [some (zr 98), some (zi 0), some (zi 45)], [zi 63, zi 45, zi 45, zr 105], (zPW L xs 118 31163 zqS_98 zqR_100 zqI_155))) 8 rfl) ?_
  refine Eq.trans (zmE_pures (c' := (23, [some (zr 98), some (zi 0), some (zi 46)], [], (zPW L xs 118 31163 zqS_98 zqR_100 zqI_156))) 8 rfl) ?_
  rfl
set_option maxRecDepth 20000 in
theorem zct_56_9 (L : Nat) (xs : Nat → Int32) (d : Nat) : zmE (zmD zP (d + 3)) zc_194 (23, [some (zr 98), some (zi 0), some (zi 46)], [], (zPW L xs 118 31163 zqS_98 zqR_100 zqI_156)) = zmE (zmD zP (d + 3)) zc_194 (37, [some (zr 98), some (zi 0), some (zi 51)], [zi 51, zr 105], (zPW L xs 118 31163 zqS_98 zqR_100 zqI_161)) := by
  refine Eq.trans (zmE_pures (c' := (48, [some (zr 98), some (zi 0), some (zi 46)], [zi 46, zr 105], (zPW L xs 118 31163 zqS_98 zqR_100 zqI_156))) 8 rfl) ?_
  refine Eq.trans (zmE_pures (c' := (24, [some (zr 98), some (zi 0), some (zi 47)], [zr 98], (zPW L xs 118 31163 zqS_98 zqR_100 zqI_157))) 8 rfl) ?_
  refine Eq.trans (zmE_pures (c' := (49, [some (zr 98), some (zi 0), some (zi 47)], [zi 0, zi 47, zr 105], (zPW L xs 118 31163 zqS_98 zqR_100 zqI_157))) 8 rfl) ?_
  refine Eq.trans (zmE_pures (c' := (27, [some (zr 98), some (zi 0), some (zi 48)], [zr 105], (zPW L xs 118 31163 zqS_98 zqR_100 zqI_158))) 8 rfl) ?_
  refine Eq.trans (zmE_pures (c' := (50, [some (zr 98), some (zi 0), some (zi 48)], [], (zPW L xs 118 31163 zqS_98 zqR_100 zqI_159))) 8 rfl) ?_
  refine Eq.trans (zmE_pures (c' := (28, [some (zr 98), some (zi 0), some (zi 49)], [zi 49, zr 105], (zPW L xs 118 31163 zqS_98 zqR_100 zqI_159))) 8 rfl) ?_
  refine Eq.trans (zmE_pures (c' := (53, [some (zr 98), some (zi 0), some (zi 50)], [], (zPW L xs 118 31163 zqS_98 zqR_100 zqI_160))) 8 rfl) ?_
  refine Eq.trans (zmE_pures (c' := (29, [some (zr 98), some (zi 0), some (zi 50)], [zi 50, zi 50, zr 105], (zPW L xs 118 31163 zqS_98 zqR_100 zqI_160))) 8 rfl) ?_
  refine Eq.trans (zmE_pures (c' := (17, [some (zr 98), some (zi 0), some (zi 51)], [], (zPW L xs 118 31163 zqS_98 zqR_100 zqI_161))) 8 rfl) ?_
  refine Eq.trans (zmE_pures (c' := (37, [some (zr 98), some (zi 0), some (zi 51)], [zi 51, zr 105], (zPW L xs 118 31163 zqS_98 zqR_100 zqI_161))) 8 rfl) ?_
  rfl
set_option maxRecDepth 20000 in
theorem zct_56_10 (L : Nat) (xs : Nat → Int32) (d : Nat) : zmE (zmD zP (d + 3)) zc_194 (37, [some (zr 98), some (zi 0), some (zi 51)], [zi 51, zr 105], (zPW L xs 118 31163 zqS_98 zqR_100 zqI_161)) = zmE (zmD zP (d + 3)) zc_194 (50, [some (zr 98), some (zi 0), some (zi 56)], [], (zPW L xs 118 31163 zqS_98 zqR_100 zqI_167)) := by
  refine Eq.trans (zmE_pures (c' := (18, [some (zr 98), some (zi 0), some (zi 52)], [zi 52], (zPW L xs 118 31163 zqS_98 zqR_100 zqI_162))) 8 rfl) ?_
  refine Eq.trans (zmE_pures (c' := (38, [some (zr 98), some (zi 0), some (zi 52)], [zi 52, zi 52, zr 105], (zPW L xs 118 31163 zqS_98 zqR_100 zqI_162))) 8 rfl) ?_
  refine Eq.trans (zmE_pures (c' := (20, [some (zr 98), some (zi 0), some (zi 53)], [zi 64, zi 53], (zPW L xs 118 31163 zqS_98 zqR_100 zqI_163))) 8 rfl) ?_
  refine Eq.trans (zmE_pures (c' := (40, [some (zr 98), some (zi 0), some (zi 53)], [zi 63, zi 53, zi 53, zr 105], (zPW L xs 118 31163 zqS_98 zqR_100 zqI_163))) 8 rfl) ?_
  refine Eq.trans (zmE_pures (c' := (23, [some (zr 98), some (zi 0), some (zi 54)], [], (zPW L xs 118 31163 zqS_98 zqR_100 zqI_164))) 8 rfl) ?_
  refine Eq.trans (zmE_pures (c' := (48, [some (zr 98), some (zi 0), some (zi 54)], [zi 54, zr 105], (zPW L xs 118 31163 zqS_98 zqR_100 zqI_164))) 8 rfl) ?_
  refine Eq.trans (zmE_pures (c' := (24, [some (zr 98), some (zi 0), some (zi 55)], [zr 98], (zPW L xs 118 31163 zqS_98 zqR_100 zqI_165))) 8 rfl) ?_
  refine Eq.trans (zmE_pures (c' := (49, [some (zr 98), some (zi 0), some (zi 55)], [zi 0, zi 55, zr 105], (zPW L xs 118 31163 zqS_98 zqR_100 zqI_165))) 8 rfl) ?_
  refine Eq.trans (zmE_pures (c' := (27, [some (zr 98), some (zi 0), some (zi 56)], [zr 105], (zPW L xs 118 31163 zqS_98 zqR_100 zqI_166))) 8 rfl) ?_
  refine Eq.trans (zmE_pures (c' := (50, [some (zr 98), some (zi 0), some (zi 56)], [], (zPW L xs 118 31163 zqS_98 zqR_100 zqI_167))) 8 rfl) ?_
  rfl
set_option maxRecDepth 20000 in
theorem zct_56_11 (L : Nat) (xs : Nat → Int32) (d : Nat) : zmE (zmD zP (d + 3)) zc_194 (50, [some (zr 98), some (zi 0), some (zi 56)], [], (zPW L xs 118 31163 zqS_98 zqR_100 zqI_167)) = zmE (zmD zP (d + 3)) zc_194 (23, [some (zr 98), some (zi 0), some (zi 62)], [], (zPW L xs 118 31163 zqS_98 zqR_100 zqI_172)) := by
  refine Eq.trans (zmE_pures (c' := (28, [some (zr 98), some (zi 0), some (zi 57)], [zi 57, zr 105], (zPW L xs 118 31163 zqS_98 zqR_100 zqI_167))) 8 rfl) ?_
  refine Eq.trans (zmE_pures (c' := (53, [some (zr 98), some (zi 0), some (zi 58)], [], (zPW L xs 118 31163 zqS_98 zqR_100 zqI_168))) 8 rfl) ?_
  refine Eq.trans (zmE_pures (c' := (29, [some (zr 98), some (zi 0), some (zi 58)], [zi 58, zi 58, zr 105], (zPW L xs 118 31163 zqS_98 zqR_100 zqI_168))) 8 rfl) ?_
  refine Eq.trans (zmE_pures (c' := (17, [some (zr 98), some (zi 0), some (zi 59)], [], (zPW L xs 118 31163 zqS_98 zqR_100 zqI_169))) 8 rfl) ?_
  refine Eq.trans (zmE_pures (c' := (37, [some (zr 98), some (zi 0), some (zi 59)], [zi 59, zr 105], (zPW L xs 118 31163 zqS_98 zqR_100 zqI_169))) 8 rfl) ?_
  refine Eq.trans (zmE_pures (c' := (18, [some (zr 98), some (zi 0), some (zi 60)], [zi 60], (zPW L xs 118 31163 zqS_98 zqR_100 zqI_170))) 8 rfl) ?_
  refine Eq.trans (zmE_pures (c' := (38, [some (zr 98), some (zi 0), some (zi 60)], [zi 60, zi 60, zr 105], (zPW L xs 118 31163 zqS_98 zqR_100 zqI_170))) 8 rfl) ?_
  refine Eq.trans (zmE_pures (c' := (20, [some (zr 98), some (zi 0), some (zi 61)], [zi 64, zi 61], (zPW L xs 118 31163 zqS_98 zqR_100 zqI_171))) 8 rfl) ?_
  refine Eq.trans (zmE_pures (c' := (40, [some (zr 98), some (zi 0), some (zi 61)], [zi 63, zi 61, zi 61, zr 105], (zPW L xs 118 31163 zqS_98 zqR_100 zqI_171))) 8 rfl) ?_
  refine Eq.trans (zmE_pures (c' := (23, [some (zr 98), some (zi 0), some (zi 62)], [], (zPW L xs 118 31163 zqS_98 zqR_100 zqI_172))) 8 rfl) ?_
  rfl
set_option maxRecDepth 20000 in
theorem zct_56 (L : Nat) (xs : Nat → Int32) (d : Nat) : zmD zP (d + 4) 194 [zr 98] (zPW L xs 118 31163 zqS_98 zqR_100 zqI_44) = some (some (zi 0), (zPW L xs 118 31163 zqS_98 zqR_100 zqI_175)) := by
  refine (show _ = zmE (zmD zP (d + 3)) zc_194 (0, [some (zr 98), none, none], [], (zPW L xs 118 31163 zqS_98 zqR_100 zqI_44)) from rfl).trans ?_
  refine Eq.trans (zct_56_0 L xs d) ?_
  refine Eq.trans (zct_56_1 L xs d) ?_
  refine Eq.trans (zct_56_2 L xs d) ?_
  refine Eq.trans (zct_56_3 L xs d) ?_
  refine Eq.trans (zct_56_4 L xs d) ?_
  refine Eq.trans (zct_56_5 L xs d) ?_
  refine Eq.trans (zct_56_6 L xs d) ?_
  refine Eq.trans (zct_56_7 L xs d) ?_
  refine Eq.trans (zct_56_8 L xs d) ?_
  refine Eq.trans (zct_56_9 L xs d) ?_
  refine Eq.trans (zct_56_10 L xs d) ?_
  refine Eq.trans (zct_56_11 L xs d) ?_
  refine Eq.trans (zmE_pures (c' := (48, [some (zr 98), some (zi 0), some (zi 62)], [zi 62, zr 105], (zPW L xs 118 31163 zqS_98 zqR_100 zqI_172))) 8 rfl) ?_
  refine Eq.trans (zmE_pures (c' := (24, [some (zr 98), some (zi 0), some (zi 63)], [zr 98], (zPW L xs 118 31163 zqS_98 zqR_100 zqI_173))) 8 rfl) ?_
  refine Eq.trans (zmE_pures (c' := (45, [some (zr 98), some (zi 0), some (zi 63)], [zi 14, zi 63, zr 105], (zPW L xs 118 31163 zqS_98 zqR_100 zqI_173))) 8 rfl) ?_
  refine Eq.trans (zmE_pures (c' := (57, [some (zr 98), some (zi 0), some (zi 64)], [zr 98], (zPW L xs 118 31163 zqS_98 zqR_100 zqI_174))) 8 rfl) ?_
  refine Eq.trans (zmE_pures (c' := (64, [some (zr 98), some (zi 0), some (zi 64)], [zi 0], (zPW L xs 118 31163 zqS_98 zqR_100 zqI_175))) 5 rfl) ?_
  exact zmE_ret rfl
set_option maxRecDepth 20000 in
theorem zct_55_0 (L : Nat) (xs : Nat → Int32) (d : Nat) : zmE (zmD zP (d + 4)) zc_193 (0, [some (zr 98), none], [], (zPW L xs 99 14946 zqS_85 zqR_87 zqI_34)) = zmE (zmD zP (d + 4)) zc_193 (120, [some (zr 98), none], [zr 113, zr 98], (zPW L xs 114 18847 zqS_95 zqR_97 zqI_34)) := by
  refine Eq.trans (zmE_pures (c' := (13, [some (zr 98), none], [zi 4, zr 98], (zPW L xs 100 14950 zqS_86 zqR_88 zqI_34))) 8 rfl) ?_
  refine Eq.trans (zmE_pures (c' := (24, [some (zr 98), none], [zr 101, zr 98], (zPW L xs 102 15194 zqS_87 zqR_89 zqI_34))) 5 rfl) ?_
  refine Eq.trans (zmE_pures (c' := (35, [some (zr 98), none], [], (zPW L xs 103 15254 zqS_88 zqR_90 zqI_34))) 5 rfl) ?_
  refine Eq.trans (zmE_pures (c' := (48, [some (zr 98), none], [zr 104, zr 98], (zPW L xs 105 15407 zqS_89 zqR_91 zqI_34))) 7 rfl) ?_
  refine Eq.trans (zmE_pures (c' := (60, [some (zr 98), none], [], (zPW L xs 106 15663 zqS_90 zqR_92 zqI_34))) 5 rfl) ?_
  refine Eq.trans (zmE_pures (c' := (73, [some (zr 98), none], [zr 107, zr 98], (zPW L xs 108 17715 zqS_91 zqR_93 zqI_34))) 7 rfl) ?_
  refine Eq.trans (zmE_pures (c' := (83, [some (zr 98), none], [], (zPW L xs 109 17719 zqS_92 zqR_94 zqI_34))) 5 rfl) ?_
  refine Eq.trans (zmE_pures (c' := (94, [some (zr 98), none], [zr 110, zr 98], (zPW L xs 111 17729 zqS_93 zqR_95 zqI_34))) 7 rfl) ?_
  refine Eq.trans (zmE_pures (c' := (105, [some (zr 98), none], [], (zPW L xs 112 17735 zqS_94 zqR_96 zqI_34))) 5 rfl) ?_
  refine Eq.trans (zmE_pures (c' := (120, [some (zr 98), none], [zr 113, zr 98], (zPW L xs 114 18847 zqS_95 zqR_97 zqI_34))) 7 rfl) ?_
  rfl
set_option maxRecDepth 20000 in
theorem zct_55_1 (L : Nat) (xs : Nat → Int32) (d : Nat) : zmE (zmD zP (d + 4)) zc_193 (120, [some (zr 98), none], [zr 113, zr 98], (zPW L xs 114 18847 zqS_95 zqR_97 zqI_34)) = zmE (zmD zP (d + 4)) zc_193 (193, [some (zr 98), some (zi 1)], [], (zPW L xs 118 31163 zqS_98 zqR_100 zqI_39)) := by
  refine Eq.trans (zmE_pures (c' := (131, [some (zr 98), none], [], (zPW L xs 115 18860 zqS_96 zqR_98 zqI_34))) 5 rfl) ?_
  refine Eq.trans (zmE_pures (c' := (143, [some (zr 98), none], [zr 116, zr 98], (zPW L xs 117 18875 zqS_97 zqR_99 zqI_34))) 7 rfl) ?_
  refine Eq.trans (zmE_pures (c' := (155, [some (zr 98), none], [], (zPW L xs 118 31163 zqS_98 zqR_100 zqI_34))) 5 rfl) ?_
  refine Eq.trans (zmE_pures (c' := (167, [some (zr 98), some (zi 0)], [zi 0, zr 99], (zPW L xs 118 31163 zqS_98 zqR_100 zqI_34))) 8 rfl) ?_
  refine Eq.trans (zmE_pures (c' := (163, [some (zr 98), some (zi 1)], [zr 98], (zPW L xs 118 31163 zqS_98 zqR_100 zqI_35))) 8 rfl) ?_
  refine Eq.trans (zmE_pures (c' := (159, [some (zr 98), some (zi 2)], [zi 4, zi 2], (zPW L xs 118 31163 zqS_98 zqR_100 zqI_36))) 8 rfl) ?_
  refine Eq.trans (zmE_pures (c' := (157, [some (zr 98), some (zi 3)], [], (zPW L xs 118 31163 zqS_98 zqR_100 zqI_37))) 8 rfl) ?_
  refine Eq.trans (zmE_pures (c' := (169, [some (zr 98), some (zi 3)], [], (zPW L xs 118 31163 zqS_98 zqR_100 zqI_38))) 8 rfl) ?_
  refine Eq.trans (zmE_pures (c' := (178, [some (zr 98), some (zi 0)], [zi 0], (zPW L xs 118 31163 zqS_98 zqR_100 zqI_38))) 8 rfl) ?_
  refine Eq.trans (zmE_pures (c' := (193, [some (zr 98), some (zi 1)], [], (zPW L xs 118 31163 zqS_98 zqR_100 zqI_39))) 8 rfl) ?_
  rfl
set_option maxRecDepth 20000 in
theorem zct_55 (L : Nat) (xs : Nat → Int32) (d : Nat) : zmD zP (d + 5) 193 [zr 98] (zPW L xs 99 14946 zqS_85 zqR_87 zqI_34) = some (none, (zPW L xs 118 31163 zqS_98 zqR_100 zqI_175)) := by
  refine (show _ = zmE (zmD zP (d + 4)) zc_193 (0, [some (zr 98), none], [], (zPW L xs 99 14946 zqS_85 zqR_87 zqI_34)) from rfl).trans ?_
  refine Eq.trans (zct_55_0 L xs d) ?_
  refine Eq.trans (zct_55_1 L xs d) ?_
  refine Eq.trans (zmE_pures (c' := (189, [some (zr 98), some (zi 1)], [zi 1, zi 1, zr 111], (zPW L xs 118 31163 zqS_98 zqR_100 zqI_39))) 8 rfl) ?_
  refine Eq.trans (zmE_pures (c' := (187, [some (zr 98), some (zi 2)], [zr 111], (zPW L xs 118 31163 zqS_98 zqR_100 zqI_40))) 8 rfl) ?_
  refine Eq.trans (zmE_pures (c' := (183, [some (zr 98), some (zi 3)], [], (zPW L xs 118 31163 zqS_98 zqR_100 zqI_41))) 8 rfl) ?_
  refine Eq.trans (zmE_pures (c' := (178, [some (zr 98), some (zi 4)], [zi 4], (zPW L xs 118 31163 zqS_98 zqR_100 zqI_42))) 8 rfl) ?_
  refine Eq.trans (zmE_pures (c' := (193, [some (zr 98), some (zi 5)], [], (zPW L xs 118 31163 zqS_98 zqR_100 zqI_43))) 8 rfl) ?_
  refine Eq.trans (zmE_pures (c' := (189, [some (zr 98), some (zi 5)], [zi 1, zi 5, zr 111], (zPW L xs 118 31163 zqS_98 zqR_100 zqI_43))) 8 rfl) ?_
  refine Eq.trans (zmE_pures (c' := (197, [some (zr 98), some (zi 6)], [zr 98], (zPW L xs 118 31163 zqS_98 zqR_100 zqI_44))) 7 rfl) ?_
  refine Eq.trans (zmE_callVd (r := (some (zi 0), (zPW L xs 118 31163 zqS_98 zqR_100 zqI_175))) (c' := (200, [some (zr 98), some (zi 6)], [zi 0], (zPW L xs 118 31163 zqS_98 zqR_100 zqI_175))) rfl rfl rfl rfl rfl (Nat.le_of_ble_eq_true rfl) (Nat.le_of_ble_eq_true rfl) (zct_56 L xs d) rfl) ?_
  refine Eq.trans (zmE_pures (c' := (201, [some (zr 98), some (zi 6)], [], (zPW L xs 118 31163 zqS_98 zqR_100 zqI_175))) 1 rfl) ?_
  exact zmE_ret rfl
theorem zct_top (L : Nat) (xs : Nat → Int32) (d : Nat) : zmE (zmD zP (d + 5)) zc_law (0, [some (zr (zXB + 30)), none, none, none], [], zPW L xs 0 0 zqS_0 zqR_0 zqI_0) = zmE (zmD zP (d + 5)) zc_law (18, [some (zr (zXB + 30)), some (zr 0), some (zr 98), some (zi 0)], [], (zPW L xs 118 31163 zqS_98 zqR_100 zqI_175)) := by
  refine Eq.trans (zmE_pures (c' := (4, [some (zr (zXB + 30)), none, none, none], [zr 0, zr 0], (zPW L xs 1 17 zqS_1 zqR_0 zqI_0))) 2 rfl) ?_
  refine Eq.trans (zmE_callVd (r := (none, (zPW L xs 98 14908 zqS_84 zqR_87 zqI_34))) (c' := (7, [some (zr (zXB + 30)), none, none, none], [zr 0], (zPW L xs 98 14908 zqS_84 zqR_87 zqI_34))) rfl rfl rfl rfl rfl (Nat.le_of_ble_eq_true rfl) (Nat.le_of_ble_eq_true rfl) (zct_1 L xs (d + 1)) rfl) ?_
  refine Eq.trans (zmE_pures (c' := (8, [some (zr (zXB + 30)), some (zr 0), none, none], [], (zPW L xs 98 14908 zqS_84 zqR_87 zqI_34))) 1 rfl) ?_
  refine Eq.trans (zmE_pures (c' := (12, [some (zr (zXB + 30)), some (zr 0), none, none], [zr 98, zr 98], (zPW L xs 99 14946 zqS_85 zqR_87 zqI_34))) 2 rfl) ?_
  refine Eq.trans (zmE_callVd (r := (none, (zPW L xs 118 31163 zqS_98 zqR_100 zqI_175))) (c' := (15, [some (zr (zXB + 30)), some (zr 0), none, none], [zr 98], (zPW L xs 118 31163 zqS_98 zqR_100 zqI_175))) rfl rfl rfl rfl rfl (Nat.le_of_ble_eq_true rfl) (Nat.le_of_ble_eq_true rfl) (zct_55 L xs d) rfl) ?_
  refine Eq.trans (zmE_pures (c' := (16, [some (zr (zXB + 30)), some (zr 0), some (zr 98), none], [], (zPW L xs 118 31163 zqS_98 zqR_100 zqI_175))) 1 rfl) ?_
  refine Eq.trans (zmE_pures (c' := (18, [some (zr (zXB + 30)), some (zr 0), some (zr 98), some (zi 0)], [], (zPW L xs 118 31163 zqS_98 zqR_100 zqI_175))) 2 rfl) ?_
  rfl
