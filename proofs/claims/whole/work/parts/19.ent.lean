/-! entries of methods, by program -/
theorem zen_0 (d : Nat) (l0 : Nat) (w : zmW) : zmD zP (d + 1) 0 [zr l0] w = zmE (zmD zP d) zc_0 (0, [some (zr l0)], [], w) := rfl
theorem zen_2 (d : Nat) (l0 : Nat) (l1 : Int) (w : zmW) : zmD zP (d + 1) 2 [zr l0, zi l1] w = zmE (zmD zP d) zc_2 (0, [some (zr l0), some (zi l1)], [], w) := rfl
theorem zen_3 (d : Nat) (l0 : Int) (l1 : Int) (w : zmW) : zmD zP (d + 1) 3 [zi l0, zi l1] w = zmE (zmD zP d) zc_3 (0, [some (zi l0), some (zi l1)], [], w) := rfl
theorem zen_4 (d : Nat) (l0 : Nat) (w : zmW) : zmD zP (d + 1) 4 [zr l0] w = zmE (zmD zP d) zc_4 (0, [some (zr l0)], [], w) := rfl
theorem zen_5 (d : Nat) (l0 : Nat) (w : zmW) : zmD zP (d + 1) 5 [zr l0] w = zmE (zmD zP d) zc_5 (0, [some (zr l0)], [], w) := rfl
theorem zen_6 (d : Nat) (l0 : Nat) (w : zmW) : zmD zP (d + 1) 6 [zr l0] w = zmE (zmD zP d) zc_6 (0, [some (zr l0)], [], w) := rfl
theorem zen_7 (d : Nat) (l0 : Nat) (l1 : Int) (w : zmW) : zmD zP (d + 1) 7 [zr l0, zi l1] w = zmE (zmD zP d) zc_7 (0, [some (zr l0), some (zi l1), none], [], w) := rfl
theorem zen_8 (d : Nat) (l0 : Nat) (w : zmW) : zmD zP (d + 1) 8 [zr l0] w = zmE (zmD zP d) zc_8 (0, [some (zr l0)], [], w) := rfl
theorem zen_9 (d : Nat) (l0 : Nat) (w : zmW) : zmD zP (d + 1) 9 [zr l0] w = zmE (zmD zP d) zc_9 (0, [some (zr l0)], [], w) := rfl
theorem zen_10 (d : Nat) (l0 : Nat) (w : zmW) : zmD zP (d + 1) 10 [zr l0] w = zmE (zmD zP d) zc_10 (0, [some (zr l0)], [], w) := rfl
theorem zen_11 (d : Nat) (l0 : Nat) (w : zmW) : zmD zP (d + 1) 11 [zr l0] w = zmE (zmD zP d) zc_11 (0, [some (zr l0), none], [], w) := rfl
theorem zen_12 (d : Nat) (l0 : Nat) (w : zmW) : zmD zP (d + 1) 12 [zr l0] w = zmE (zmD zP d) zc_12 (0, [some (zr l0)], [], w) := rfl
theorem zen_13 (d : Nat) (l0 : Nat) (w : zmW) : zmD zP (d + 1) 13 [zr l0] w = zmE (zmD zP d) zc_13 (0, [some (zr l0)], [], w) := rfl
theorem zen_14 (d : Nat) (l0 : Nat) (l1 : Int) (l2 : Int) (w : zmW) : zmD zP (d + 1) 14 [zr l0, zi l1, zi l2] w = zmE (zmD zP d) zc_14 (0, [some (zr l0), some (zi l1), some (zi l2)], [], w) := rfl
theorem zen_15 (d : Nat) (l0 : Nat) (l1 : Int) (w : zmW) : zmD zP (d + 1) 15 [zr l0, zi l1] w = zmE (zmD zP d) zc_15 (0, [some (zr l0), some (zi l1)], [], w) := rfl
theorem zen_16 (d : Nat) (l0 : Nat) (l1 : Int) (w : zmW) : zmD zP (d + 1) 16 [zr l0, zi l1] w = zmE (zmD zP d) zc_16 (0, [some (zr l0), some (zi l1)], [], w) := rfl
theorem zen_17 (d : Nat) (l0 : Nat) (l1 : Int) (w : zmW) : zmD zP (d + 1) 17 [zr l0, zi l1] w = zmE (zmD zP d) zc_17 (0, [some (zr l0), some (zi l1)], [], w) := rfl
theorem zen_18 (d : Nat) (l0 : Nat) (w : zmW) : zmD zP (d + 1) 18 [zr l0] w = zmE (zmD zP d) zc_18 (0, [some (zr l0)], [], w) := rfl
theorem zen_19 (d : Nat) (l0 : Nat) (l1 : Nat) (l2 : Nat) (w : zmW) : zmD zP (d + 1) 19 [zr l0, zr l1, zr l2] w = zmE (zmD zP d) zc_19 (0, [some (zr l0), some (zr l1), some (zr l2), none], [], w) := rfl
theorem zen_20 (d : Nat) (l0 : Nat) (w : zmW) : zmD zP (d + 1) 20 [zr l0] w = zmE (zmD zP d) zc_20 (0, [some (zr l0)], [], w) := rfl
theorem zen_21 (d : Nat) (l0 : Nat) (l1 : Int) (w : zmW) : zmD zP (d + 1) 21 [zr l0, zi l1] w = zmE (zmD zP d) zc_21 (0, [some (zr l0), some (zi l1), none, none], [], w) := rfl
theorem zen_22 (d : Nat) (l0 : Nat) (w : zmW) : zmD zP (d + 1) 22 [zr l0] w = zmE (zmD zP d) zc_22 (0, [some (zr l0)], [], w) := rfl
theorem zen_23 (d : Nat) (l0 : Nat) (l1 : Int) (w : zmW) : zmD zP (d + 1) 23 [zr l0, zi l1] w = zmE (zmD zP d) zc_23 (0, [some (zr l0), some (zi l1)], [], w) := rfl
theorem zen_24 (d : Nat) (l0 : Nat) (l1 : Int) (l2 : Nat) (w : zmW) : zmD zP (d + 1) 24 [zr l0, zi l1, zr l2] w = zmE (zmD zP d) zc_24 (0, [some (zr l0), some (zi l1), some (zr l2)], [], w) := rfl
theorem zen_25 (d : Nat) (l0 : Nat) (l1 : Int) (w : zmW) : zmD zP (d + 1) 25 [zr l0, zi l1] w = zmE (zmD zP d) zc_25 (0, [some (zr l0), some (zi l1)], [], w) := rfl
theorem zen_26 (d : Nat) (l0 : Nat) (l1 : Int) (w : zmW) : zmD zP (d + 1) 26 [zr l0, zi l1] w = zmE (zmD zP d) zc_26 (0, [some (zr l0), some (zi l1)], [], w) := rfl
theorem zen_27 (d : Nat) (l0 : Int) (w : zmW) : zmD zP (d + 1) 27 [zi l0] w = zmE (zmD zP d) zc_27 (0, [some (zi l0), none], [], w) := rfl
theorem zen_28 (d : Nat) (l0 : Nat) (l1 : Int) (w : zmW) : zmD zP (d + 1) 28 [zr l0, zi l1] w = zmE (zmD zP d) zc_28 (0, [some (zr l0), some (zi l1)], [], w) := rfl
theorem zen_29 (d : Nat) (l0 : Nat) (l1 : Int) (l2 : Int) (w : zmW) : zmD zP (d + 1) 29 [zr l0, zi l1, zi l2] w = zmE (zmD zP d) zc_29 (0, [some (zr l0), some (zi l1), some (zi l2)], [], w) := rfl
theorem zen_30 (d : Nat) (l0 : Nat) (w : zmW) : zmD zP (d + 1) 30 [zr l0] w = zmE (zmD zP d) zc_30 (0, [some (zr l0)], [], w) := rfl
theorem zen_31 (d : Nat) (l0 : Nat) (w : zmW) : zmD zP (d + 1) 31 [zr l0] w = zmE (zmD zP d) zc_31 (0, [some (zr l0)], [], w) := rfl
theorem zen_32 (d : Nat) (l0 : Nat) (w : zmW) : zmD zP (d + 1) 32 [zr l0] w = zmE (zmD zP d) zc_32 (0, [some (zr l0)], [], w) := rfl
theorem zen_33 (d : Nat) (l0 : Nat) (l1 : Int) (l2 : Int) (l3 : Int) (w : zmW) : zmD zP (d + 1) 33 [zr l0, zi l1, zi l2, zi l3] w = zmE (zmD zP d) zc_33 (0, [some (zr l0), some (zi l1), some (zi l2), some (zi l3)], [], w) := rfl
theorem zen_34 (d : Nat) (l0 : Int) (w : zmW) : zmD zP (d + 1) 34 [zi l0] w = zmE (zmD zP d) zc_34 (0, [some (zi l0)], [], w) := rfl
theorem zen_35 (d : Nat) (l0 : Int) (l1 : Int) (w : zmW) : zmD zP (d + 1) 35 [zi l0, zi l1] w = zmE (zmD zP d) zc_35 (0, [some (zi l0), some (zi l1)], [], w) := rfl
theorem zen_36 (d : Nat) (l0 : Nat) (l1 : Int) (l2 : Int) (l3 : Int) (w : zmW) : zmD zP (d + 1) 36 [zr l0, zi l1, zi l2, zi l3] w = zmE (zmD zP d) zc_36 (0, [some (zr l0), some (zi l1), some (zi l2), some (zi l3), none, none], [], w) := rfl
theorem zen_49 (d : Nat) (l0 : Nat) (l1 : Int) (l2 : Nat) (w : zmW) : zmD zP (d + 1) 49 [zr l0, zi l1, zr l2] w = zmE (zmD zP d) zc_49 (0, [some (zr l0), some (zi l1), some (zr l2)], [], w) := rfl
theorem zen_50 (d : Nat) (l0 : Nat) (l1 : Int) (w : zmW) : zmD zP (d + 1) 50 [zr l0, zi l1] w = zmE (zmD zP d) zc_50 (0, [some (zr l0), some (zi l1)], [], w) := rfl
theorem zen_51 (d : Nat) (l0 : Nat) (l1 : Int) (l2 : Int) (w : zmW) : zmD zP (d + 1) 51 [zr l0, zi l1, zi l2] w = zmE (zmD zP d) zc_51 (0, [some (zr l0), some (zi l1), some (zi l2)], [], w) := rfl
theorem zen_52 (d : Nat) (l0 : Nat) (l1 : Nat) (w : zmW) : zmD zP (d + 1) 52 [zr l0, zr l1] w = zmE (zmD zP d) zc_52 (0, [some (zr l0), some (zr l1)], [], w) := rfl
theorem zen_53 (d : Nat) (l0 : Nat) (l1 : Int) (w : zmW) : zmD zP (d + 1) 53 [zr l0, zi l1] w = zmE (zmD zP d) zc_53 (0, [some (zr l0), some (zi l1), none], [], w) := rfl
theorem zen_54 (d : Nat) (l0 : Nat) (w : zmW) : zmD zP (d + 1) 54 [zr l0] w = zmE (zmD zP d) zc_54 (0, [some (zr l0)], [], w) := rfl
theorem zen_55 (d : Nat) (l0 : Nat) (l1 : Int) (w : zmW) : zmD zP (d + 1) 55 [zr l0, zi l1] w = zmE (zmD zP d) zc_55 (0, [some (zr l0), some (zi l1)], [], w) := rfl
theorem zen_56 (d : Nat) (l0 : Nat) (w : zmW) : zmD zP (d + 1) 56 [zr l0] w = zmE (zmD zP d) zc_56 (0, [some (zr l0), none, none], [], w) := rfl
theorem zen_57 (d : Nat) (l0 : Int) (l1 : Int) (w : zmW) : zmD zP (d + 1) 57 [zi l0, zi l1] w = zmE (zmD zP d) zc_57 (0, [some (zi l0), some (zi l1), none, none], [], w) := rfl
theorem zen_58 (d : Nat) (l0 : Int) (w : zmW) : zmD zP (d + 1) 58 [zi l0] w = zmE (zmD zP d) zc_58 (0, [some (zi l0)], [], w) := rfl
theorem zen_59 (d : Nat) (l0 : Int) (w : zmW) : zmD zP (d + 1) 59 [zi l0] w = zmE (zmD zP d) zc_59 (0, [some (zi l0)], [], w) := rfl
theorem zen_60 (d : Nat) (l0 : Int) (w : zmW) : zmD zP (d + 1) 60 [zi l0] w = zmE (zmD zP d) zc_60 (0, [some (zi l0)], [], w) := rfl
theorem zen_61 (d : Nat) (l0 : Nat) (w : zmW) : zmD zP (d + 1) 61 [zr l0] w = zmE (zmD zP d) zc_61 (0, [some (zr l0), none, none, none, none], [], w) := rfl
theorem zen_62 (d : Nat) (l0 : Nat) (l1 : Int) (w : zmW) : zmD zP (d + 1) 62 [zr l0, zi l1] w = zmE (zmD zP d) zc_62 (0, [some (zr l0), some (zi l1)], [], w) := rfl
theorem zen_63 (d : Nat) (l0 : Nat) (l1 : Int) (w : zmW) : zmD zP (d + 1) 63 [zr l0, zi l1] w = zmE (zmD zP d) zc_63 (0, [some (zr l0), some (zi l1)], [], w) := rfl
theorem zen_64 (d : Nat) (l0 : Int) (w : zmW) : zmD zP (d + 1) 64 [zi l0] w = zmE (zmD zP d) zc_64 (0, [some (zi l0)], [], w) := rfl
theorem zen_65 (d : Nat) (l0 : Nat) (l1 : Int) (w : zmW) : zmD zP (d + 1) 65 [zr l0, zi l1] w = zmE (zmD zP d) zc_65 (0, [some (zr l0), some (zi l1)], [], w) := rfl
theorem zen_66 (d : Nat) (l0 : Nat) (l1 : Int) (w : zmW) : zmD zP (d + 1) 66 [zr l0, zi l1] w = zmE (zmD zP d) zc_66 (0, [some (zr l0), some (zi l1)], [], w) := rfl
theorem zen_71 (d : Nat) (l0 : Nat) (w : zmW) : zmD zP (d + 1) 71 [zr l0] w = zmE (zmD zP d) zc_71 (0, [some (zr l0)], [], w) := rfl
theorem zen_72 (d : Nat) (l0 : Nat) (w : zmW) : zmD zP (d + 1) 72 [zr l0] w = zmE (zmD zP d) zc_72 (0, [some (zr l0)], [], w) := rfl
theorem zen_73 (d : Nat) (l0 : Nat) (l1 : Int) (w : zmW) : zmD zP (d + 1) 73 [zr l0, zi l1] w = zmE (zmD zP d) zc_73 (0, [some (zr l0), some (zi l1)], [], w) := rfl
theorem zen_74 (d : Nat) (l0 : Nat) (w : zmW) : zmD zP (d + 1) 74 [zr l0] w = zmE (zmD zP d) zc_74 (0, [some (zr l0)], [], w) := rfl
theorem zen_75 (d : Nat) (l0 : Nat) (l1 : Nat) (l2 : Nat) (w : zmW) : zmD zP (d + 1) 75 [zr l0, zr l1, zr l2] w = zmE (zmD zP d) zc_75 (0, [some (zr l0), some (zr l1), some (zr l2), none, none, none, none, none, none, none, none, none, none, none], [], w) := rfl
theorem zen_76 (d : Nat) (l0 : Nat) (w : zmW) : zmD zP (d + 1) 76 [zr l0] w = zmE (zmD zP d) zc_76 (0, [some (zr l0)], [], w) := rfl
theorem zen_77 (d : Nat) (l0 : Nat) (l1 : Int) (w : zmW) : zmD zP (d + 1) 77 [zr l0, zi l1] w = zmE (zmD zP d) zc_77 (0, [some (zr l0), some (zi l1), none, none, none, none, none, none], [], w) := rfl
theorem zen_78 (d : Nat) (l0 : Nat) (l1 : Int) (l2 : Int) (l3 : Int) (l4 : Int) (w : zmW) : zmD zP (d + 1) 78 [zr l0, zi l1, zi l2, zi l3, zi l4] w = zmE (zmD zP d) zc_78 (0, [some (zr l0), some (zi l1), some (zi l2), some (zi l3), some (zi l4), none, none, none, none, none], [], w) := rfl
theorem zen_79 (d : Nat) (l0 : Int) (l1 : Int) (w : zmW) : zmD zP (d + 1) 79 [zi l0, zi l1] w = zmE (zmD zP d) zc_79 (0, [some (zi l0), some (zi l1), none, none], [], w) := rfl
theorem zen_80 (d : Nat) (l0 : Nat) (l1 : Int) (l2 : Int) (l3 : Int) (w : zmW) : zmD zP (d + 1) 80 [zr l0, zi l1, zi l2, zi l3] w = zmE (zmD zP d) zc_80 (0, [some (zr l0), some (zi l1), some (zi l2), some (zi l3)], [], w) := rfl
theorem zen_81 (d : Nat) (l0 : Nat) (l1 : Int) (l2 : Int) (w : zmW) : zmD zP (d + 1) 81 [zr l0, zi l1, zi l2] w = zmE (zmD zP d) zc_81 (0, [some (zr l0), some (zi l1), some (zi l2), none, none, none, none, none, none], [], w) := rfl
theorem zen_82 (d : Nat) (l0 : Nat) (l1 : Int) (l2 : Int) (w : zmW) : zmD zP (d + 1) 82 [zr l0, zi l1, zi l2] w = zmE (zmD zP d) zc_82 (0, [some (zr l0), some (zi l1), some (zi l2), none, none, none, none, none], [], w) := rfl
theorem zen_83 (d : Nat) (l0 : Nat) (l1 : Int) (l2 : Int) (l3 : Int) (l4 : Int) (w : zmW) : zmD zP (d + 1) 83 [zr l0, zi l1, zi l2, zi l3, zi l4] w = zmE (zmD zP d) zc_83 (0, [some (zr l0), some (zi l1), some (zi l2), some (zi l3), some (zi l4), none, none, none, none, none, none], [], w) := rfl
theorem zen_84 (d : Nat) (l0 : Int) (w : zmW) : zmD zP (d + 1) 84 [zl l0] w = zmE (zmD zP d) zc_84 (0, [some (zl l0), none], [], w) := rfl
theorem zen_85 (d : Nat) (l0 : Nat) (l1 : Int) (l2 : Int) (w : zmW) : zmD zP (d + 1) 85 [zr l0, zi l1, zi l2] w = zmE (zmD zP d) zc_85 (0, [some (zr l0), some (zi l1), some (zi l2)], [], w) := rfl
theorem zen_86 (d : Nat) (l0 : Int) (l1 : Int) (l2 : Int) (w : zmW) : zmD zP (d + 1) 86 [zi l0, zi l1, zi l2] w = zmE (zmD zP d) zc_86 (0, [some (zi l0), some (zi l1), some (zi l2), none], [], w) := rfl
theorem zen_87 (d : Nat) (l0 : Nat) (l1 : Int) (l2 : Int) (l3 : Int) (w : zmW) : zmD zP (d + 1) 87 [zr l0, zi l1, zi l2, zi l3] w = zmE (zmD zP d) zc_87 (0, [some (zr l0), some (zi l1), some (zi l2), some (zi l3), none, none, none], [], w) := rfl
theorem zen_88 (d : Nat) (l0 : Nat) (l1 : Int) (l2 : Int) (w : zmW) : zmD zP (d + 1) 88 [zr l0, zi l1, zi l2] w = zmE (zmD zP d) zc_88 (0, [some (zr l0), some (zi l1), some (zi l2)], [], w) := rfl
theorem zen_89 (d : Nat) (l0 : Nat) (l1 : Nat) (l2 : Int) (w : zmW) : zmD zP (d + 1) 89 [zr l0, zr l1, zi l2] w = zmE (zmD zP d) zc_89 (0, [some (zr l0), some (zr l1), some (zi l2), none, none], [], w) := rfl
theorem zen_90 (d : Nat) (l0 : Nat) (w : zmW) : zmD zP (d + 1) 90 [zr l0] w = zmE (zmD zP d) zc_90 (0, [some (zr l0)], [], w) := rfl
theorem zen_91 (d : Nat) (l0 : Int) (w : zmW) : zmD zP (d + 1) 91 [zi l0] w = zmE (zmD zP d) zc_91 (0, [some (zi l0)], [], w) := rfl
theorem zen_92 (d : Nat) (l0 : Int) (w : zmW) : zmD zP (d + 1) 92 [zi l0] w = zmE (zmD zP d) zc_92 (0, [some (zi l0)], [], w) := rfl
theorem zen_93 (d : Nat) (l0 : Int) (w : zmW) : zmD zP (d + 1) 93 [zi l0] w = zmE (zmD zP d) zc_93 (0, [some (zi l0)], [], w) := rfl
theorem zen_94 (d : Nat) (l0 : Nat) (l1 : Int) (l2 : Nat) (w : zmW) : zmD zP (d + 1) 94 [zr l0, zi l1, zr l2] w = zmE (zmD zP d) zc_94 (0, [some (zr l0), some (zi l1), some (zr l2), none, none], [], w) := rfl
theorem zen_95 (d : Nat) (l0 : Nat) (l1 : Int) (l2 : Nat) (l3 : Int) (w : zmW) : zmD zP (d + 1) 95 [zr l0, zi l1, zr l2, zi l3] w = zmE (zmD zP d) zc_95 (0, [some (zr l0), some (zi l1), some (zr l2), some (zi l3), none], [], w) := rfl
theorem zen_96 (d : Nat) (l0 : Nat) (l1 : Int) (w : zmW) : zmD zP (d + 1) 96 [zr l0, zi l1] w = zmE (zmD zP d) zc_96 (0, [some (zr l0), some (zi l1)], [], w) := rfl
theorem zen_97 (d : Nat) (l0 : Nat) (l1 : Int) (w : zmW) : zmD zP (d + 1) 97 [zr l0, zi l1] w = zmE (zmD zP d) zc_97 (0, [some (zr l0), some (zi l1)], [], w) := rfl
theorem zen_98 (d : Nat) (l0 : Nat) (l1 : Int) (w : zmW) : zmD zP (d + 1) 98 [zr l0, zi l1] w = zmE (zmD zP d) zc_98 (0, [some (zr l0), some (zi l1)], [], w) := rfl
theorem zen_99 (d : Nat) (l0 : Nat) (l1 : Int) (l2 : Int) (w : zmW) : zmD zP (d + 1) 99 [zr l0, zi l1, zi l2] w = zmE (zmD zP d) zc_99 (0, [some (zr l0), some (zi l1), some (zi l2)], [], w) := rfl
theorem zen_100 (d : Nat) (l0 : Nat) (l1 : Int) (w : zmW) : zmD zP (d + 1) 100 [zr l0, zi l1] w = zmE (zmD zP d) zc_100 (0, [some (zr l0), some (zi l1)], [], w) := rfl
theorem zen_101 (d : Nat) (l0 : Int) (w : zmW) : zmD zP (d + 1) 101 [zi l0] w = zmE (zmD zP d) zc_101 (0, [some (zi l0)], [], w) := rfl
theorem zen_102 (d : Nat) (l0 : Nat) (l1 : Int) (w : zmW) : zmD zP (d + 1) 102 [zr l0, zi l1] w = zmE (zmD zP d) zc_102 (0, [some (zr l0), some (zi l1)], [], w) := rfl
theorem zen_103 (d : Nat) (l0 : Nat) (l1 : Int) (w : zmW) : zmD zP (d + 1) 103 [zr l0, zi l1] w = zmE (zmD zP d) zc_103 (0, [some (zr l0), some (zi l1), none], [], w) := rfl
theorem zen_104 (d : Nat) (l0 : Nat) (w : zmW) : zmD zP (d + 1) 104 [zr l0] w = zmE (zmD zP d) zc_104 (0, [some (zr l0), none], [], w) := rfl
theorem zen_105 (d : Nat) (l0 : Nat) (w : zmW) : zmD zP (d + 1) 105 [zr l0] w = zmE (zmD zP d) zc_105 (0, [some (zr l0), none], [], w) := rfl
theorem zen_106 (d : Nat) (l0 : Nat) (l1 : Int) (w : zmW) : zmD zP (d + 1) 106 [zr l0, zi l1] w = zmE (zmD zP d) zc_106 (0, [some (zr l0), some (zi l1)], [], w) := rfl
theorem zen_107 (d : Nat) (l0 : Nat) (l1 : Int) (w : zmW) : zmD zP (d + 1) 107 [zr l0, zi l1] w = zmE (zmD zP d) zc_107 (0, [some (zr l0), some (zi l1)], [], w) := rfl
theorem zen_108 (d : Nat) (l0 : Nat) (l1 : Int) (w : zmW) : zmD zP (d + 1) 108 [zr l0, zi l1] w = zmE (zmD zP d) zc_108 (0, [some (zr l0), some (zi l1), none, none, none, none], [], w) := rfl
theorem zen_109 (d : Nat) (l0 : Nat) (l1 : Int) (w : zmW) : zmD zP (d + 1) 109 [zr l0, zi l1] w = zmE (zmD zP d) zc_109 (0, [some (zr l0), some (zi l1), none, none], [], w) := rfl
theorem zen_110 (d : Nat) (l0 : Nat) (l1 : Int) (w : zmW) : zmD zP (d + 1) 110 [zr l0, zi l1] w = zmE (zmD zP d) zc_110 (0, [some (zr l0), some (zi l1)], [], w) := rfl
theorem zen_111 (d : Nat) (l0 : Nat) (w : zmW) : zmD zP (d + 1) 111 [zr l0] w = zmE (zmD zP d) zc_111 (0, [some (zr l0)], [], w) := rfl
theorem zen_112 (d : Nat) (l0 : Nat) (l1 : Int) (w : zmW) : zmD zP (d + 1) 112 [zr l0, zi l1] w = zmE (zmD zP d) zc_112 (0, [some (zr l0), some (zi l1)], [], w) := rfl
theorem zen_113 (d : Nat) (l0 : Nat) (w : zmW) : zmD zP (d + 1) 113 [zr l0] w = zmE (zmD zP d) zc_113 (0, [some (zr l0)], [], w) := rfl
theorem zen_114 (d : Nat) (l0 : Nat) (l1 : Int) (w : zmW) : zmD zP (d + 1) 114 [zr l0, zi l1] w = zmE (zmD zP d) zc_114 (0, [some (zr l0), some (zi l1)], [], w) := rfl
theorem zen_115 (d : Nat) (l0 : Nat) (w : zmW) : zmD zP (d + 1) 115 [zr l0] w = zmE (zmD zP d) zc_115 (0, [some (zr l0), none], [], w) := rfl
theorem zen_116 (d : Nat) (l0 : Nat) (l1 : Int) (l2 : Int) (w : zmW) : zmD zP (d + 1) 116 [zr l0, zi l1, zi l2] w = zmE (zmD zP d) zc_116 (0, [some (zr l0), some (zi l1), some (zi l2), none], [], w) := rfl
theorem zen_117 (d : Nat) (l0 : Nat) (l1 : Int) (w : zmW) : zmD zP (d + 1) 117 [zr l0, zi l1] w = zmE (zmD zP d) zc_117 (0, [some (zr l0), some (zi l1)], [], w) := rfl
theorem zen_118 (d : Nat) (l0 : Nat) (l1 : Int) (l2 : Int) (w : zmW) : zmD zP (d + 1) 118 [zr l0, zi l1, zi l2] w = zmE (zmD zP d) zc_118 (0, [some (zr l0), some (zi l1), some (zi l2)], [], w) := rfl
theorem zen_119 (d : Nat) (l0 : Int) (l1 : Int) (l2 : Int) (l3 : Int) (w : zmW) : zmD zP (d + 1) 119 [zi l0, zi l1, zi l2, zi l3] w = zmE (zmD zP d) zc_119 (0, [some (zi l0), some (zi l1), some (zi l2), some (zi l3), none, none], [], w) := rfl
theorem zen_120 (d : Nat) (l0 : Int) (l1 : Int) (l2 : Int) (w : zmW) : zmD zP (d + 1) 120 [zi l0, zi l1, zi l2] w = zmE (zmD zP d) zc_120 (0, [some (zi l0), some (zi l1), some (zi l2)], [], w) := rfl
theorem zen_121 (d : Nat) (l0 : Nat) (w : zmW) : zmD zP (d + 1) 121 [zr l0] w = zmE (zmD zP d) zc_121 (0, [some (zr l0), none, none], [], w) := rfl
theorem zen_122 (d : Nat) (l0 : Nat) (l1 : Int) (w : zmW) : zmD zP (d + 1) 122 [zr l0, zi l1] w = zmE (zmD zP d) zc_122 (0, [some (zr l0), some (zi l1), none, none], [], w) := rfl
theorem zen_123 (d : Nat) (l0 : Nat) (l1 : Nat) (l2 : Int) (l3 : Int) (w : zmW) : zmD zP (d + 1) 123 [zr l0, zr l1, zi l2, zi l3] w = zmE (zmD zP d) zc_123 (0, [some (zr l0), some (zr l1), some (zi l2), some (zi l3), none, none, none], [], w) := rfl
theorem zen_124 (d : Nat) (l0 : Nat) (l1 : Int) (l2 : Int) (w : zmW) : zmD zP (d + 1) 124 [zr l0, zi l1, zi l2] w = zmE (zmD zP d) zc_124 (0, [some (zr l0), some (zi l1), some (zi l2), none], [], w) := rfl
theorem zen_125 (d : Nat) (l0 : Nat) (l1 : Int) (w : zmW) : zmD zP (d + 1) 125 [zr l0, zi l1] w = zmE (zmD zP d) zc_125 (0, [some (zr l0), some (zi l1), none, none], [], w) := rfl
theorem zen_126 (d : Nat) (l0 : Nat) (l1 : Int) (w : zmW) : zmD zP (d + 1) 126 [zr l0, zi l1] w = zmE (zmD zP d) zc_126 (0, [some (zr l0), some (zi l1), none, none, none], [], w) := rfl
theorem zen_127 (d : Nat) (l0 : Nat) (l1 : Int) (l2 : Int) (w : zmW) : zmD zP (d + 1) 127 [zr l0, zi l1, zi l2] w = zmE (zmD zP d) zc_127 (0, [some (zr l0), some (zi l1), some (zi l2), none], [], w) := rfl
theorem zen_128 (d : Nat) (l0 : Nat) (l1 : Int) (w : zmW) : zmD zP (d + 1) 128 [zr l0, zi l1] w = zmE (zmD zP d) zc_128 (0, [some (zr l0), some (zi l1)], [], w) := rfl
theorem zen_129 (d : Nat) (l0 : Nat) (l1 : Nat) (l2 : Nat) (l3 : Int) (w : zmW) : zmD zP (d + 1) 129 [zr l0, zr l1, zr l2, zi l3] w = zmE (zmD zP d) zc_129 (0, [some (zr l0), some (zr l1), some (zr l2), some (zi l3), none, none, none, none, none, none], [], w) := rfl
theorem zen_130 (d : Nat) (l0 : Nat) (l1 : Nat) (l2 : Nat) (l3 : Int) (w : zmW) : zmD zP (d + 1) 130 [zr l0, zr l1, zr l2, zi l3] w = zmE (zmD zP d) zc_130 (0, [some (zr l0), some (zr l1), some (zr l2), some (zi l3), none, none], [], w) := rfl
theorem zen_131 (d : Nat) (l0 : Nat) (l1 : Int) (w : zmW) : zmD zP (d + 1) 131 [zr l0, zi l1] w = zmE (zmD zP d) zc_131 (0, [some (zr l0), some (zi l1)], [], w) := rfl
theorem zen_132 (d : Nat) (l0 : Nat) (l1 : Int) (l2 : Nat) (w : zmW) : zmD zP (d + 1) 132 [zr l0, zi l1, zr l2] w = zmE (zmD zP d) zc_132 (0, [some (zr l0), some (zi l1), some (zr l2), none], [], w) := rfl
theorem zen_133 (d : Nat) (l0 : Nat) (w : zmW) : zmD zP (d + 1) 133 [zr l0] w = zmE (zmD zP d) zc_133 (0, [some (zr l0), none, none], [], w) := rfl
theorem zen_134 (d : Nat) (l0 : Nat) (l1 : Int) (l2 : Int) (w : zmW) : zmD zP (d + 1) 134 [zr l0, zi l1, zi l2] w = zmE (zmD zP d) zc_134 (0, [some (zr l0), some (zi l1), some (zi l2)], [], w) := rfl
theorem zen_135 (d : Nat) (l0 : Nat) (l1 : Nat) (l2 : Int) (l3 : Nat) (w : zmW) : zmD zP (d + 1) 135 [zr l0, zr l1, zi l2, zr l3] w = zmE (zmD zP d) zc_135 (0, [some (zr l0), some (zr l1), some (zi l2), some (zr l3)], [], w) := rfl
theorem zen_136 (d : Nat) (l0 : Nat) (l1 : Nat) (w : zmW) : zmD zP (d + 1) 136 [zr l0, zr l1] w = zmE (zmD zP d) zc_136 (0, [some (zr l0), some (zr l1)], [], w) := rfl
theorem zen_137 (d : Nat) (l0 : Nat) (l1 : Nat) (w : zmW) : zmD zP (d + 1) 137 [zr l0, zr l1] w = zmE (zmD zP d) zc_137 (0, [some (zr l0), some (zr l1), none, none], [], w) := rfl
theorem zen_138 (d : Nat) (l0 : Nat) (w : zmW) : zmD zP (d + 1) 138 [zr l0] w = zmE (zmD zP d) zc_138 (0, [some (zr l0)], [], w) := rfl
theorem zen_139 (d : Nat) (l0 : Nat) (l1 : Int) (w : zmW) : zmD zP (d + 1) 139 [zr l0, zi l1] w = zmE (zmD zP d) zc_139 (0, [some (zr l0), some (zi l1), none], [], w) := rfl
theorem zen_140 (d : Nat) (l0 : Nat) (w : zmW) : zmD zP (d + 1) 140 [zr l0] w = zmE (zmD zP d) zc_140 (0, [some (zr l0), none, none], [], w) := rfl
theorem zen_141 (d : Nat) (l0 : Nat) (l1 : Int) (l2 : Int) (l3 : Int) (l4 : Int) (w : zmW) : zmD zP (d + 1) 141 [zr l0, zi l1, zi l2, zi l3, zi l4] w = zmE (zmD zP d) zc_141 (0, [some (zr l0), some (zi l1), some (zi l2), some (zi l3), some (zi l4)], [], w) := rfl
theorem zen_142 (d : Nat) (l0 : Int) (w : zmW) : zmD zP (d + 1) 142 [zi l0] w = zmE (zmD zP d) zc_142 (0, [some (zi l0)], [], w) := rfl
theorem zen_143 (d : Nat) (l0 : Int) (w : zmW) : zmD zP (d + 1) 143 [zi l0] w = zmE (zmD zP d) zc_143 (0, [some (zi l0)], [], w) := rfl
theorem zen_144 (d : Nat) (l0 : Nat) (l1 : Int) (l2 : Int) (w : zmW) : zmD zP (d + 1) 144 [zr l0, zi l1, zi l2] w = zmE (zmD zP d) zc_144 (0, [some (zr l0), some (zi l1), some (zi l2), none], [], w) := rfl
theorem zen_145 (d : Nat) (l0 : Nat) (l1 : Int) (l2 : Int) (l3 : Int) (w : zmW) : zmD zP (d + 1) 145 [zr l0, zi l1, zi l2, zi l3] w = zmE (zmD zP d) zc_145 (0, [some (zr l0), some (zi l1), some (zi l2), some (zi l3), none], [], w) := rfl
theorem zen_146 (d : Nat) (l0 : Int) (w : zmW) : zmD zP (d + 1) 146 [zi l0] w = zmE (zmD zP d) zc_146 (0, [some (zi l0)], [], w) := rfl
theorem zen_147 (d : Nat) (l0 : Int) (l1 : Int) (w : zmW) : zmD zP (d + 1) 147 [zi l0, zi l1] w = zmE (zmD zP d) zc_147 (0, [some (zi l0), some (zi l1), none, none, none, none], [], w) := rfl
theorem zen_148 (d : Nat) (l0 : Nat) (l1 : Int) (l2 : Int) (w : zmW) : zmD zP (d + 1) 148 [zr l0, zi l1, zi l2] w = zmE (zmD zP d) zc_148 (0, [some (zr l0), some (zi l1), some (zi l2), none], [], w) := rfl
theorem zen_149 (d : Nat) (l0 : Nat) (l1 : Int) (l2 : Int) (l3 : Int) (l4 : Int) (w : zmW) : zmD zP (d + 1) 149 [zr l0, zi l1, zi l2, zi l3, zi l4] w = zmE (zmD zP d) zc_149 (0, [some (zr l0), some (zi l1), some (zi l2), some (zi l3), some (zi l4), none], [], w) := rfl
theorem zen_150 (d : Nat) (l0 : Nat) (l1 : Int) (l2 : Int) (w : zmW) : zmD zP (d + 1) 150 [zr l0, zi l1, zi l2] w = zmE (zmD zP d) zc_150 (0, [some (zr l0), some (zi l1), some (zi l2), none, none], [], w) := rfl
theorem zen_151 (d : Nat) (l0 : Nat) (l1 : Int) (l2 : Int) (l3 : Int) (w : zmW) : zmD zP (d + 1) 151 [zr l0, zi l1, zi l2, zi l3] w = zmE (zmD zP d) zc_151 (0, [some (zr l0), some (zi l1), some (zi l2), some (zi l3), none, none], [], w) := rfl
theorem zen_152 (d : Nat) (l0 : Nat) (l1 : Int) (w : zmW) : zmD zP (d + 1) 152 [zr l0, zi l1] w = zmE (zmD zP d) zc_152 (0, [some (zr l0), some (zi l1)], [], w) := rfl
theorem zen_153 (d : Nat) (l0 : Nat) (l1 : Int) (w : zmW) : zmD zP (d + 1) 153 [zr l0, zi l1] w = zmE (zmD zP d) zc_153 (0, [some (zr l0), some (zi l1)], [], w) := rfl
theorem zen_154 (d : Nat) (l0 : Nat) (l1 : Nat) (l2 : Nat) (w : zmW) : zmD zP (d + 1) 154 [zr l0, zr l1, zr l2] w = zmE (zmD zP d) zc_154 (0, [some (zr l0), some (zr l1), some (zr l2), none], [], w) := rfl
theorem zen_155 (d : Nat) (l0 : Nat) (l1 : Nat) (w : zmW) : zmD zP (d + 1) 155 [zr l0, zr l1] w = zmE (zmD zP d) zc_155 (0, [some (zr l0), some (zr l1), none, none, none], [], w) := rfl
theorem zen_156 (d : Nat) (l0 : Nat) (l1 : Int) (l2 : Nat) (l3 : Nat) (w : zmW) : zmD zP (d + 1) 156 [zr l0, zi l1, zr l2, zr l3] w = zmE (zmD zP d) zc_156 (0, [some (zr l0), some (zi l1), some (zr l2), some (zr l3)], [], w) := rfl
theorem zen_157 (d : Nat) (l0 : Nat) (w : zmW) : zmD zP (d + 1) 157 [zr l0] w = zmE (zmD zP d) zc_157 (0, [some (zr l0)], [], w) := rfl
theorem zen_158 (d : Nat) (l0 : Nat) (w : zmW) : zmD zP (d + 1) 158 [zr l0] w = zmE (zmD zP d) zc_158 (0, [some (zr l0)], [], w) := rfl
theorem zen_159 (d : Nat) (l0 : Nat) (w : zmW) : zmD zP (d + 1) 159 [zr l0] w = zmE (zmD zP d) zc_159 (0, [some (zr l0), none, none], [], w) := rfl
theorem zen_160 (d : Nat) (l0 : Nat) (l1 : Int) (w : zmW) : zmD zP (d + 1) 160 [zr l0, zi l1] w = zmE (zmD zP d) zc_160 (0, [some (zr l0), some (zi l1)], [], w) := rfl
theorem zen_161 (d : Nat) (l0 : Nat) (l1 : Int) (w : zmW) : zmD zP (d + 1) 161 [zr l0, zi l1] w = zmE (zmD zP d) zc_161 (0, [some (zr l0), some (zi l1)], [], w) := rfl
theorem zen_162 (d : Nat) (l0 : Nat) (l1 : Int) (w : zmW) : zmD zP (d + 1) 162 [zr l0, zi l1] w = zmE (zmD zP d) zc_162 (0, [some (zr l0), some (zi l1)], [], w) := rfl
theorem zen_163 (d : Nat) (l0 : Nat) (l1 : Int) (w : zmW) : zmD zP (d + 1) 163 [zr l0, zi l1] w = zmE (zmD zP d) zc_163 (0, [some (zr l0), some (zi l1), none, none], [], w) := rfl
theorem zen_164 (d : Nat) (l0 : Nat) (w : zmW) : zmD zP (d + 1) 164 [zr l0] w = zmE (zmD zP d) zc_164 (0, [some (zr l0)], [], w) := rfl
theorem zen_165 (d : Nat) (l0 : Nat) (l1 : Nat) (l2 : Nat) (w : zmW) : zmD zP (d + 1) 165 [zr l0, zr l1, zr l2] w = zmE (zmD zP d) zc_165 (0, [some (zr l0), some (zr l1), some (zr l2), none], [], w) := rfl
theorem zen_166 (d : Nat) (l0 : Nat) (w : zmW) : zmD zP (d + 1) 166 [zr l0] w = zmE (zmD zP d) zc_166 (0, [some (zr l0)], [], w) := rfl
theorem zen_167 (d : Nat) (l0 : Nat) (l1 : Int) (w : zmW) : zmD zP (d + 1) 167 [zr l0, zl l1] w = zmE (zmD zP d) zc_167 (0, [some (zr l0), some (zl l1), none, none, none], [], w) := rfl
theorem zen_168 (d : Nat) (l0 : Nat) (l1 : Nat) (l2 : Int) (w : zmW) : zmD zP (d + 1) 168 [zr l0, zr l1, zi l2] w = zmE (zmD zP d) zc_168 (0, [some (zr l0), some (zr l1), some (zi l2), none, none, none, none], [], w) := rfl
theorem zen_169 (d : Nat) (l0 : Nat) (w : zmW) : zmD zP (d + 1) 169 [zr l0] w = zmE (zmD zP d) zc_169 (0, [some (zr l0)], [], w) := rfl
theorem zen_170 (d : Nat) (l0 : Nat) (l1 : Int) (l2 : Int) (w : zmW) : zmD zP (d + 1) 170 [zr l0, zi l1, zi l2] w = zmE (zmD zP d) zc_170 (0, [some (zr l0), some (zi l1), some (zi l2)], [], w) := rfl
theorem zen_171 (d : Nat) (l0 : Nat) (l1 : Int) (l2 : Int) (w : zmW) : zmD zP (d + 1) 171 [zr l0, zi l1, zi l2] w = zmE (zmD zP d) zc_171 (0, [some (zr l0), some (zi l1), some (zi l2), none, none, none], [], w) := rfl
theorem zen_172 (d : Nat) (l0 : Nat) (w : zmW) : zmD zP (d + 1) 172 [zr l0] w = zmE (zmD zP d) zc_172 (0, [some (zr l0)], [], w) := rfl
theorem zen_173 (d : Nat) (l0 : Nat) (l1 : Int) (l2 : Int) (w : zmW) : zmD zP (d + 1) 173 [zr l0, zi l1, zi l2] w = zmE (zmD zP d) zc_173 (0, [some (zr l0), some (zi l1), some (zi l2)], [], w) := rfl
theorem zen_174 (d : Nat) (l0 : Nat) (l1 : Int) (w : zmW) : zmD zP (d + 1) 174 [zr l0, zi l1] w = zmE (zmD zP d) zc_174 (0, [some (zr l0), some (zi l1)], [], w) := rfl
theorem zen_175 (d : Nat) (l0 : Nat) (l1 : Int) (w : zmW) : zmD zP (d + 1) 175 [zr l0, zi l1] w = zmE (zmD zP d) zc_175 (0, [some (zr l0), some (zi l1)], [], w) := rfl
theorem zen_176 (d : Nat) (l0 : Nat) (l1 : Int) (l2 : Int) (l3 : Int) (w : zmW) : zmD zP (d + 1) 176 [zr l0, zi l1, zi l2, zi l3] w = zmE (zmD zP d) zc_176 (0, [some (zr l0), some (zi l1), some (zi l2), some (zi l3)], [], w) := rfl
theorem zen_177 (d : Nat) (l0 : Int) (w : zmW) : zmD zP (d + 1) 177 [zi l0] w = zmE (zmD zP d) zc_177 (0, [some (zi l0)], [], w) := rfl
theorem zen_178 (d : Nat) (l0 : Nat) (l1 : Int) (l2 : Int) (w : zmW) : zmD zP (d + 1) 178 [zr l0, zi l1, zi l2] w = zmE (zmD zP d) zc_178 (0, [some (zr l0), some (zi l1), some (zi l2)], [], w) := rfl
theorem zen_179 (d : Nat) (l0 : Nat) (l1 : Int) (w : zmW) : zmD zP (d + 1) 179 [zr l0, zi l1] w = zmE (zmD zP d) zc_179 (0, [some (zr l0), some (zi l1), none], [], w) := rfl
theorem zen_180 (d : Nat) (l0 : Nat) (w : zmW) : zmD zP (d + 1) 180 [zr l0] w = zmE (zmD zP d) zc_180 (0, [some (zr l0)], [], w) := rfl
theorem zen_181 (d : Nat) (l0 : Nat) (l1 : Int) (l2 : Int) (l3 : Int) (l4 : Int) (w : zmW) : zmD zP (d + 1) 181 [zr l0, zi l1, zi l2, zi l3, zi l4] w = zmE (zmD zP d) zc_181 (0, [some (zr l0), some (zi l1), some (zi l2), some (zi l3), some (zi l4), none], [], w) := rfl
theorem zen_182 (d : Nat) (l0 : Nat) (l1 : Int) (l2 : Int) (w : zmW) : zmD zP (d + 1) 182 [zr l0, zi l1, zi l2] w = zmE (zmD zP d) zc_182 (0, [some (zr l0), some (zi l1), some (zi l2)], [], w) := rfl
theorem zen_183 (d : Nat) (l0 : Nat) (w : zmW) : zmD zP (d + 1) 183 [zr l0] w = zmE (zmD zP d) zc_183 (0, [some (zr l0)], [], w) := rfl
theorem zen_184 (d : Nat) (l0 : Nat) (l1 : Int) (l2 : Int) (w : zmW) : zmD zP (d + 1) 184 [zr l0, zi l1, zi l2] w = zmE (zmD zP d) zc_184 (0, [some (zr l0), some (zi l1), some (zi l2)], [], w) := rfl
theorem zen_185 (d : Nat) (l0 : Nat) (l1 : Int) (l2 : Int) (w : zmW) : zmD zP (d + 1) 185 [zr l0, zi l1, zi l2] w = zmE (zmD zP d) zc_185 (0, [some (zr l0), some (zi l1), some (zi l2)], [], w) := rfl
theorem zen_186 (d : Nat) (l0 : Nat) (l1 : Int) (l2 : Int) (l3 : Int) (w : zmW) : zmD zP (d + 1) 186 [zr l0, zi l1, zi l2, zi l3] w = zmE (zmD zP d) zc_186 (0, [some (zr l0), some (zi l1), some (zi l2), some (zi l3), none], [], w) := rfl
theorem zen_187 (d : Nat) (l0 : Nat) (l1 : Int) (l2 : Int) (l3 : Int) (l4 : Int) (l5 : Int) (w : zmW) : zmD zP (d + 1) 187 [zr l0, zi l1, zi l2, zi l3, zi l4, zi l5] w = zmE (zmD zP d) zc_187 (0, [some (zr l0), some (zi l1), some (zi l2), some (zi l3), some (zi l4), some (zi l5), none, none], [], w) := rfl
theorem zen_188 (d : Nat) (l0 : Nat) (l1 : Nat) (l2 : Int) (l3 : Int) (l4 : Int) (w : zmW) : zmD zP (d + 1) 188 [zr l0, zr l1, zi l2, zi l3, zi l4] w = zmE (zmD zP d) zc_188 (0, [some (zr l0), some (zr l1), some (zi l2), some (zi l3), some (zi l4)], [], w) := rfl
theorem zen_189 (d : Nat) (l0 : Nat) (l1 : Int) (w : zmW) : zmD zP (d + 1) 189 [zr l0, zi l1] w = zmE (zmD zP d) zc_189 (0, [some (zr l0), some (zi l1), none, none], [], w) := rfl
theorem zen_190 (d : Nat) (l0 : Nat) (l1 : Int) (w : zmW) : zmD zP (d + 1) 190 [zr l0, zi l1] w = zmE (zmD zP d) zc_190 (0, [some (zr l0), some (zi l1)], [], w) := rfl
theorem zen_191 (d : Nat) (l0 : Nat) (l1 : Int) (w : zmW) : zmD zP (d + 1) 191 [zr l0, zi l1] w = zmE (zmD zP d) zc_191 (0, [some (zr l0), some (zi l1), none, none], [], w) := rfl
theorem zen_192 (d : Nat) (l0 : Nat) (w : zmW) : zmD zP (d + 1) 192 [zr l0] w = zmE (zmD zP d) zc_192 (0, [some (zr l0), none, none, none, none, none], [], w) := rfl
theorem zen_193 (d : Nat) (l0 : Nat) (w : zmW) : zmD zP (d + 1) 193 [zr l0] w = zmE (zmD zP d) zc_193 (0, [some (zr l0), none], [], w) := rfl
theorem zen_194 (d : Nat) (l0 : Nat) (w : zmW) : zmD zP (d + 1) 194 [zr l0] w = zmE (zmD zP d) zc_194 (0, [some (zr l0), none, none], [], w) := rfl
theorem zen_195 (d : Nat) (l0 : Nat) (w : zmW) : zmD zP (d + 1) 195 [zr l0] w = zmE (zmD zP d) zc_195 (0, [some (zr l0), none], [], w) := rfl
theorem zen_196 (d : Nat) (l0 : Nat) (l1 : Int) (w : zmW) : zmD zP (d + 1) 196 [zr l0, zi l1] w = zmE (zmD zP d) zc_196 (0, [some (zr l0), some (zi l1), none, none, none, none, none], [], w) := rfl
theorem zen_197 (d : Nat) (l0 : Nat) (l1 : Int) (l2 : Int) (w : zmW) : zmD zP (d + 1) 197 [zr l0, zi l1, zi l2] w = zmE (zmD zP d) zc_197 (0, [some (zr l0), some (zi l1), some (zi l2)], [], w) := rfl
theorem zen_198 (d : Nat) (l0 : Int) (w : zmW) : zmD zP (d + 1) 198 [zi l0] w = zmE (zmD zP d) zc_198 (0, [some (zi l0)], [], w) := rfl
theorem zen_199 (d : Nat) (l0 : Int) (w : zmW) : zmD zP (d + 1) 199 [zi l0] w = zmE (zmD zP d) zc_199 (0, [some (zi l0)], [], w) := rfl
theorem zen_200 (d : Nat) (l0 : Nat) (l1 : Int) (w : zmW) : zmD zP (d + 1) 200 [zr l0, zi l1] w = zmE (zmD zP d) zc_200 (0, [some (zr l0), some (zi l1), none, none], [], w) := rfl
theorem zen_201 (d : Nat) (l0 : Int) (l2 : Int) (l4 : Int) (w : zmW) : zmD zP (d + 1) 201 [zl l0, zl l2, zl l4] w = zmE (zmD zP d) zc_201 (0, [some (zl l0), none, some (zl l2), none, some (zl l4), none], [], w) := rfl
theorem zen_202 (d : Nat) (l0 : Nat) (l1 : Int) (w : zmW) : zmD zP (d + 1) 202 [zr l0, zi l1] w = zmE (zmD zP d) zc_202 (0, [some (zr l0), some (zi l1)], [], w) := rfl
theorem zen_203 (d : Nat) (l0 : Nat) (l1 : Int) (l2 : Int) (l3 : Int) (w : zmW) : zmD zP (d + 1) 203 [zr l0, zi l1, zi l2, zi l3] w = zmE (zmD zP d) zc_203 (0, [some (zr l0), some (zi l1), some (zi l2), some (zi l3), none], [], w) := rfl
theorem zen_204 (d : Nat) (l0 : Int) (w : zmW) : zmD zP (d + 1) 204 [zi l0] w = zmE (zmD zP d) zc_204 (0, [some (zi l0)], [], w) := rfl
theorem zen_205 (d : Nat) (l0 : Nat) (l1 : Int) (w : zmW) : zmD zP (d + 1) 205 [zr l0, zi l1] w = zmE (zmD zP d) zc_205 (0, [some (zr l0), some (zi l1)], [], w) := rfl
theorem zen_206 (d : Nat) (l0 : Nat) (l1 : Int) (w : zmW) : zmD zP (d + 1) 206 [zr l0, zi l1] w = zmE (zmD zP d) zc_206 (0, [some (zr l0), some (zi l1)], [], w) := rfl
theorem zen_207 (d : Nat) (l0 : Nat) (l1 : Int) (l2 : Int) (l3 : Int) (l4 : Int) (w : zmW) : zmD zP (d + 1) 207 [zr l0, zi l1, zi l2, zi l3, zi l4] w = zmE (zmD zP d) zc_207 (0, [some (zr l0), some (zi l1), some (zi l2), some (zi l3), some (zi l4), none], [], w) := rfl
theorem zen_208 (d : Nat) (l0 : Nat) (l1 : Int) (l2 : Int) (l3 : Int) (w : zmW) : zmD zP (d + 1) 208 [zr l0, zi l1, zi l2, zi l3] w = zmE (zmD zP d) zc_208 (0, [some (zr l0), some (zi l1), some (zi l2), some (zi l3)], [], w) := rfl
theorem zen_209 (d : Nat) (l0 : Int) (l1 : Int) (w : zmW) : zmD zP (d + 1) 209 [zi l0, zi l1] w = zmE (zmD zP d) zc_209 (0, [some (zi l0), some (zi l1)], [], w) := rfl
theorem zen_210 (d : Nat) (l0 : Nat) (l1 : Int) (l2 : Int) (l3 : Int) (w : zmW) : zmD zP (d + 1) 210 [zr l0, zi l1, zi l2, zi l3] w = zmE (zmD zP d) zc_210 (0, [some (zr l0), some (zi l1), some (zi l2), some (zi l3)], [], w) := rfl
theorem zen_211 (d : Nat) (l0 : Nat) (l1 : Int) (l2 : Int) (l3 : Int) (l4 : Int) (l5 : Int) (w : zmW) : zmD zP (d + 1) 211 [zr l0, zi l1, zi l2, zi l3, zi l4, zi l5] w = zmE (zmD zP d) zc_211 (0, [some (zr l0), some (zi l1), some (zi l2), some (zi l3), some (zi l4), some (zi l5), none], [], w) := rfl
theorem zen_212 (d : Nat) (l0 : Nat) (l1 : Int) (l2 : Int) (w : zmW) : zmD zP (d + 1) 212 [zr l0, zi l1, zi l2] w = zmE (zmD zP d) zc_212 (0, [some (zr l0), some (zi l1), some (zi l2)], [], w) := rfl
theorem zen_213 (d : Nat) (l0 : Int) (w : zmW) : zmD zP (d + 1) 213 [zi l0] w = zmE (zmD zP d) zc_213 (0, [some (zi l0)], [], w) := rfl
theorem zen_214 (d : Nat) (l0 : Nat) (l1 : Int) (w : zmW) : zmD zP (d + 1) 214 [zr l0, zi l1] w = zmE (zmD zP d) zc_214 (0, [some (zr l0), some (zi l1), none], [], w) := rfl
theorem zen_215 (d : Nat) (l0 : Nat) (l1 : Int) (w : zmW) : zmD zP (d + 1) 215 [zr l0, zi l1] w = zmE (zmD zP d) zc_215 (0, [some (zr l0), some (zi l1)], [], w) := rfl
theorem zen_216 (d : Nat) (l0 : Nat) (l1 : Int) (w : zmW) : zmD zP (d + 1) 216 [zr l0, zi l1] w = zmE (zmD zP d) zc_216 (0, [some (zr l0), some (zi l1)], [], w) := rfl
theorem zen_217 (d : Nat) (l0 : Nat) (w : zmW) : zmD zP (d + 1) 217 [zr l0] w = zmE (zmD zP d) zc_217 (0, [some (zr l0), none, none, none], [], w) := rfl
theorem zen_218 (d : Nat) (l0 : Nat) (w : zmW) : zmD zP (d + 1) 218 [zr l0] w = zmE (zmD zP d) zc_218 (0, [some (zr l0)], [], w) := rfl
theorem zen_219 (d : Nat) (l0 : Nat) (l1 : Int) (l2 : Int) (l3 : Int) (w : zmW) : zmD zP (d + 1) 219 [zr l0, zi l1, zi l2, zi l3] w = zmE (zmD zP d) zc_219 (0, [some (zr l0), some (zi l1), some (zi l2), some (zi l3), none, none, none, none, none, none, none], [], w) := rfl
theorem zen_220 (d : Nat) (l0 : Int) (w : zmW) : zmD zP (d + 1) 220 [zi l0] w = zmE (zmD zP d) zc_220 (0, [some (zi l0)], [], w) := rfl
theorem zen_221 (d : Nat) (l0 : Int) (w : zmW) : zmD zP (d + 1) 221 [zi l0] w = zmE (zmD zP d) zc_221 (0, [some (zi l0)], [], w) := rfl
theorem zen_222 (d : Nat) (l0 : Nat) (l1 : Int) (l2 : Int) (l3 : Int) (w : zmW) : zmD zP (d + 1) 222 [zr l0, zi l1, zi l2, zi l3] w = zmE (zmD zP d) zc_222 (0, [some (zr l0), some (zi l1), some (zi l2), some (zi l3), none], [], w) := rfl
theorem zen_223 (d : Nat) (l0 : Nat) (w : zmW) : zmD zP (d + 1) 223 [zr l0] w = zmE (zmD zP d) zc_223 (0, [some (zr l0), none, none, none, none], [], w) := rfl
theorem zen_224 (d : Nat) (l0 : Nat) (l1 : Int) (w : zmW) : zmD zP (d + 1) 224 [zr l0, zi l1] w = zmE (zmD zP d) zc_224 (0, [some (zr l0), some (zi l1)], [], w) := rfl
theorem zen_225 (d : Nat) (l0 : Nat) (l1 : Int) (w : zmW) : zmD zP (d + 1) 225 [zr l0, zi l1] w = zmE (zmD zP d) zc_225 (0, [some (zr l0), some (zi l1)], [], w) := rfl
theorem zen_226 (d : Nat) (l0 : Int) (w : zmW) : zmD zP (d + 1) 226 [zi l0] w = zmE (zmD zP d) zc_226 (0, [some (zi l0)], [], w) := rfl
theorem zen_227 (d : Nat) (l0 : Int) (w : zmW) : zmD zP (d + 1) 227 [zi l0] w = zmE (zmD zP d) zc_227 (0, [some (zi l0)], [], w) := rfl
theorem zen_228 (d : Nat) (l0 : Int) (w : zmW) : zmD zP (d + 1) 228 [zi l0] w = zmE (zmD zP d) zc_228 (0, [some (zi l0)], [], w) := rfl
theorem zen_229 (d : Nat) (l0 : Nat) (w : zmW) : zmD zP (d + 1) 229 [zr l0] w = zmE (zmD zP d) zc_229 (0, [some (zr l0)], [], w) := rfl
theorem zen_230 (d : Nat) (l0 : Nat) (l1 : Int) (w : zmW) : zmD zP (d + 1) 230 [zr l0, zi l1] w = zmE (zmD zP d) zc_230 (0, [some (zr l0), some (zi l1)], [], w) := rfl
theorem zen_231 (d : Nat) (l0 : Nat) (l1 : Int) (w : zmW) : zmD zP (d + 1) 231 [zr l0, zi l1] w = zmE (zmD zP d) zc_231 (0, [some (zr l0), some (zi l1)], [], w) := rfl
theorem zen_232 (d : Nat) (l0 : Nat) (l1 : Int) (w : zmW) : zmD zP (d + 1) 232 [zr l0, zi l1] w = zmE (zmD zP d) zc_232 (0, [some (zr l0), some (zi l1), none, none, none, none], [], w) := rfl
theorem zen_233 (d : Nat) (l0 : Int) (w : zmW) : zmD zP (d + 1) 233 [zi l0] w = zmE (zmD zP d) zc_233 (0, [some (zi l0)], [], w) := rfl
theorem zen_234 (d : Nat) (l0 : Nat) (l1 : Int) (l2 : Int) (l3 : Int) (w : zmW) : zmD zP (d + 1) 234 [zr l0, zi l1, zi l2, zi l3] w = zmE (zmD zP d) zc_234 (0, [some (zr l0), some (zi l1), some (zi l2), some (zi l3), none, none, none], [], w) := rfl
theorem zen_235 (d : Nat) (l0 : Nat) (l1 : Int) (l2 : Int) (l3 : Int) (w : zmW) : zmD zP (d + 1) 235 [zr l0, zi l1, zi l2, zi l3] w = zmE (zmD zP d) zc_235 (0, [some (zr l0), some (zi l1), some (zi l2), some (zi l3), none, none], [], w) := rfl
theorem zen_236 (d : Nat) (l0 : Nat) (l1 : Int) (l2 : Int) (l3 : Int) (w : zmW) : zmD zP (d + 1) 236 [zr l0, zi l1, zi l2, zi l3] w = zmE (zmD zP d) zc_236 (0, [some (zr l0), some (zi l1), some (zi l2), some (zi l3), none, none, none, none], [], w) := rfl
theorem zen_237 (d : Nat) (l0 : Nat) (l1 : Int) (l2 : Int) (l3 : Int) (w : zmW) : zmD zP (d + 1) 237 [zr l0, zi l1, zi l2, zi l3] w = zmE (zmD zP d) zc_237 (0, [some (zr l0), some (zi l1), some (zi l2), some (zi l3), none, none, none], [], w) := rfl
theorem zen_238 (d : Nat) (l0 : Int) (w : zmW) : zmD zP (d + 1) 238 [zi l0] w = zmE (zmD zP d) zc_238 (0, [some (zi l0)], [], w) := rfl
theorem zen_239 (d : Nat) (l0 : Nat) (l1 : Int) (l2 : Int) (l3 : Int) (w : zmW) : zmD zP (d + 1) 239 [zr l0, zi l1, zi l2, zi l3] w = zmE (zmD zP d) zc_239 (0, [some (zr l0), some (zi l1), some (zi l2), some (zi l3), none, none], [], w) := rfl
theorem zen_240 (d : Nat) (l0 : Int) (w : zmW) : zmD zP (d + 1) 240 [zi l0] w = zmE (zmD zP d) zc_240 (0, [some (zi l0)], [], w) := rfl
theorem zen_241 (d : Nat) (l0 : Nat) (l1 : Int) (l2 : Int) (l3 : Int) (w : zmW) : zmD zP (d + 1) 241 [zr l0, zi l1, zi l2, zi l3] w = zmE (zmD zP d) zc_241 (0, [some (zr l0), some (zi l1), some (zi l2), some (zi l3), none, none], [], w) := rfl
theorem zen_242 (d : Nat) (l0 : Nat) (l1 : Int) (l2 : Int) (w : zmW) : zmD zP (d + 1) 242 [zr l0, zi l1, zi l2] w = zmE (zmD zP d) zc_242 (0, [some (zr l0), some (zi l1), some (zi l2), none, none], [], w) := rfl
theorem zen_243 (d : Nat) (l0 : Nat) (l1 : Int) (w : zmW) : zmD zP (d + 1) 243 [zr l0, zi l1] w = zmE (zmD zP d) zc_243 (0, [some (zr l0), some (zi l1)], [], w) := rfl
theorem zen_244 (d : Nat) (l0 : Int) (w : zmW) : zmD zP (d + 1) 244 [zi l0] w = zmE (zmD zP d) zc_244 (0, [some (zi l0)], [], w) := rfl
theorem zen_245 (d : Nat) (l0 : Nat) (w : zmW) : zmD zP (d + 1) 245 [zr l0] w = zmE (zmD zP d) zc_245 (0, [some (zr l0)], [], w) := rfl
theorem zen_246 (d : Nat) (l0 : Nat) (w : zmW) : zmD zP (d + 1) 246 [zr l0] w = zmE (zmD zP d) zc_246 (0, [some (zr l0), none], [], w) := rfl
theorem zen_247 (d : Nat) (l0 : Nat) (l1 : Int) (w : zmW) : zmD zP (d + 1) 247 [zr l0, zi l1] w = zmE (zmD zP d) zc_247 (0, [some (zr l0), some (zi l1)], [], w) := rfl
theorem zen_248 (d : Nat) (l0 : Nat) (l1 : Int) (l2 : Int) (w : zmW) : zmD zP (d + 1) 248 [zr l0, zi l1, zi l2] w = zmE (zmD zP d) zc_248 (0, [some (zr l0), some (zi l1), some (zi l2)], [], w) := rfl
theorem zen_249 (d : Nat) (l0 : Nat) (l1 : Int) (w : zmW) : zmD zP (d + 1) 249 [zr l0, zi l1] w = zmE (zmD zP d) zc_249 (0, [some (zr l0), some (zi l1), none], [], w) := rfl
theorem zen_250 (d : Nat) (l0 : Nat) (w : zmW) : zmD zP (d + 1) 250 [zr l0] w = zmE (zmD zP d) zc_250 (0, [some (zr l0), none], [], w) := rfl
theorem zen_251 (d : Nat) (l0 : Nat) (l1 : Int) (l2 : Int) (w : zmW) : zmD zP (d + 1) 251 [zr l0, zi l1, zi l2] w = zmE (zmD zP d) zc_251 (0, [some (zr l0), some (zi l1), some (zi l2)], [], w) := rfl
theorem zen_252 (d : Nat) (l0 : Nat) (l1 : Int) (l2 : Int) (w : zmW) : zmD zP (d + 1) 252 [zr l0, zi l1, zi l2] w = zmE (zmD zP d) zc_252 (0, [some (zr l0), some (zi l1), some (zi l2)], [], w) := rfl
theorem zen_253 (d : Nat) (l0 : Nat) (l1 : Int) (l2 : Int) (w : zmW) : zmD zP (d + 1) 253 [zr l0, zi l1, zi l2] w = zmE (zmD zP d) zc_253 (0, [some (zr l0), some (zi l1), some (zi l2), none, none], [], w) := rfl
theorem zen_254 (d : Nat) (l0 : Nat) (l1 : Int) (l2 : Int) (l3 : Int) (w : zmW) : zmD zP (d + 1) 254 [zr l0, zi l1, zi l2, zi l3] w = zmE (zmD zP d) zc_254 (0, [some (zr l0), some (zi l1), some (zi l2), some (zi l3), none, none, none], [], w) := rfl
theorem zen_255 (d : Nat) (l0 : Nat) (l1 : Int) (w : zmW) : zmD zP (d + 1) 255 [zr l0, zi l1] w = zmE (zmD zP d) zc_255 (0, [some (zr l0), some (zi l1)], [], w) := rfl
theorem zen_256 (d : Nat) (l0 : Nat) (w : zmW) : zmD zP (d + 1) 256 [zr l0] w = zmE (zmD zP d) zc_256 (0, [some (zr l0), none], [], w) := rfl
theorem zen_257 (d : Nat) (l0 : Nat) (l1 : Int) (w : zmW) : zmD zP (d + 1) 257 [zr l0, zi l1] w = zmE (zmD zP d) zc_257 (0, [some (zr l0), some (zi l1), none, none], [], w) := rfl
theorem zen_258 (d : Nat) (l0 : Nat) (l1 : Int) (l2 : Int) (w : zmW) : zmD zP (d + 1) 258 [zr l0, zi l1, zi l2] w = zmE (zmD zP d) zc_258 (0, [some (zr l0), some (zi l1), some (zi l2), none, none, none, none], [], w) := rfl
theorem zen_259 (d : Nat) (l0 : Nat) (w : zmW) : zmD zP (d + 1) 259 [zr l0] w = zmE (zmD zP d) zc_259 (0, [some (zr l0)], [], w) := rfl
theorem zen_260 (d : Nat) (l0 : Nat) (w : zmW) : zmD zP (d + 1) 260 [zr l0] w = zmE (zmD zP d) zc_260 (0, [some (zr l0), none, none], [], w) := rfl
theorem zen_261 (d : Nat) (l0 : Nat) (l1 : Int) (w : zmW) : zmD zP (d + 1) 261 [zr l0, zi l1] w = zmE (zmD zP d) zc_261 (0, [some (zr l0), some (zi l1)], [], w) := rfl
theorem zen_262 (d : Nat) (l0 : Nat) (l1 : Int) (w : zmW) : zmD zP (d + 1) 262 [zr l0, zi l1] w = zmE (zmD zP d) zc_262 (0, [some (zr l0), some (zi l1), none, none], [], w) := rfl
theorem zen_263 (d : Nat) (l0 : Nat) (l1 : Int) (w : zmW) : zmD zP (d + 1) 263 [zr l0, zi l1] w = zmE (zmD zP d) zc_263 (0, [some (zr l0), some (zi l1)], [], w) := rfl
theorem zen_264 (d : Nat) (l0 : Nat) (l1 : Int) (w : zmW) : zmD zP (d + 1) 264 [zr l0, zi l1] w = zmE (zmD zP d) zc_264 (0, [some (zr l0), some (zi l1), none, none], [], w) := rfl
theorem zen_265 (d : Nat) (l0 : Nat) (w : zmW) : zmD zP (d + 1) 265 [zr l0] w = zmE (zmD zP d) zc_265 (0, [some (zr l0), none, none], [], w) := rfl
theorem zen_266 (d : Nat) (l0 : Nat) (l1 : Int) (l2 : Int) (w : zmW) : zmD zP (d + 1) 266 [zr l0, zi l1, zi l2] w = zmE (zmD zP d) zc_266 (0, [some (zr l0), some (zi l1), some (zi l2), none], [], w) := rfl
theorem zen_267 (d : Nat) (l0 : Nat) (l1 : Int) (w : zmW) : zmD zP (d + 1) 267 [zr l0, zi l1] w = zmE (zmD zP d) zc_267 (0, [some (zr l0), some (zi l1)], [], w) := rfl
theorem zen_268 (d : Nat) (l0 : Nat) (l1 : Int) (w : zmW) : zmD zP (d + 1) 268 [zr l0, zi l1] w = zmE (zmD zP d) zc_268 (0, [some (zr l0), some (zi l1), none, none, none, none], [], w) := rfl
theorem zen_269 (d : Nat) (l0 : Nat) (l1 : Int) (l2 : Int) (w : zmW) : zmD zP (d + 1) 269 [zr l0, zi l1, zi l2] w = zmE (zmD zP d) zc_269 (0, [some (zr l0), some (zi l1), some (zi l2)], [], w) := rfl
theorem zen_270 (d : Nat) (l0 : Nat) (l1 : Int) (w : zmW) : zmD zP (d + 1) 270 [zr l0, zi l1] w = zmE (zmD zP d) zc_270 (0, [some (zr l0), some (zi l1), none, none], [], w) := rfl
theorem zen_271 (d : Nat) (l0 : Nat) (l1 : Int) (l2 : Int) (w : zmW) : zmD zP (d + 1) 271 [zr l0, zi l1, zi l2] w = zmE (zmD zP d) zc_271 (0, [some (zr l0), some (zi l1), some (zi l2)], [], w) := rfl
theorem zen_272 (d : Nat) (l0 : Nat) (l1 : Int) (w : zmW) : zmD zP (d + 1) 272 [zr l0, zi l1] w = zmE (zmD zP d) zc_272 (0, [some (zr l0), some (zi l1)], [], w) := rfl
theorem zen_273 (d : Nat) (l0 : Nat) (l1 : Int) (w : zmW) : zmD zP (d + 1) 273 [zr l0, zi l1] w = zmE (zmD zP d) zc_273 (0, [some (zr l0), some (zi l1)], [], w) := rfl
theorem zen_274 (d : Nat) (l0 : Nat) (l1 : Int) (l2 : Int) (w : zmW) : zmD zP (d + 1) 274 [zr l0, zi l1, zi l2] w = zmE (zmD zP d) zc_274 (0, [some (zr l0), some (zi l1), some (zi l2)], [], w) := rfl
theorem zen_275 (d : Nat) (l0 : Nat) (l1 : Int) (w : zmW) : zmD zP (d + 1) 275 [zr l0, zi l1] w = zmE (zmD zP d) zc_275 (0, [some (zr l0), some (zi l1), none], [], w) := rfl
theorem zen_276 (d : Nat) (l0 : Nat) (l1 : Int) (w : zmW) : zmD zP (d + 1) 276 [zr l0, zi l1] w = zmE (zmD zP d) zc_276 (0, [some (zr l0), some (zi l1), none, none], [], w) := rfl
theorem zen_277 (d : Nat) (l0 : Nat) (l1 : Int) (l2 : Int) (l3 : Int) (l4 : Int) (w : zmW) : zmD zP (d + 1) 277 [zr l0, zi l1, zi l2, zi l3, zi l4] w = zmE (zmD zP d) zc_277 (0, [some (zr l0), some (zi l1), some (zi l2), some (zi l3), some (zi l4), none], [], w) := rfl
theorem zen_278 (d : Nat) (l0 : Int) (w : zmW) : zmD zP (d + 1) 278 [zi l0] w = zmE (zmD zP d) zc_278 (0, [some (zi l0)], [], w) := rfl
theorem zen_279 (d : Nat) (l0 : Int) (w : zmW) : zmD zP (d + 1) 279 [zi l0] w = zmE (zmD zP d) zc_279 (0, [some (zi l0)], [], w) := rfl
theorem zen_280 (d : Nat) (l0 : Int) (w : zmW) : zmD zP (d + 1) 280 [zi l0] w = zmE (zmD zP d) zc_280 (0, [some (zi l0)], [], w) := rfl
theorem zen_281 (d : Nat) (l0 : Nat) (w : zmW) : zmD zP (d + 1) 281 [zr l0] w = zmE (zmD zP d) zc_281 (0, [some (zr l0), none, none], [], w) := rfl
theorem zen_282 (d : Nat) (l0 : Nat) (l1 : Int) (l2 : Int) (l3 : Int) (w : zmW) : zmD zP (d + 1) 282 [zr l0, zi l1, zi l2, zi l3] w = zmE (zmD zP d) zc_282 (0, [some (zr l0), some (zi l1), some (zi l2), some (zi l3), none], [], w) := rfl
theorem zen_283 (d : Nat) (l0 : Int) (l2 : Int) (l4 : Int) (w : zmW) : zmD zP (d + 1) 283 [zl l0, zl l2, zi l4] w = zmE (zmD zP d) zc_283 (0, [some (zl l0), none, some (zl l2), none, some (zi l4), none, none, none, none, none, none], [], w) := rfl
theorem zen_284 (d : Nat) (l0 : Nat) (l1 : Int) (l2 : Int) (l3 : Int) (l4 : Int) (w : zmW) : zmD zP (d + 1) 284 [zr l0, zi l1, zi l2, zi l3, zi l4] w = zmE (zmD zP d) zc_284 (0, [some (zr l0), some (zi l1), some (zi l2), some (zi l3), some (zi l4)], [], w) := rfl
theorem zen_285 (d : Nat) (l0 : Nat) (l1 : Int) (l2 : Int) (l3 : Int) (l4 : Int) (w : zmW) : zmD zP (d + 1) 285 [zr l0, zi l1, zi l2, zi l3, zi l4] w = zmE (zmD zP d) zc_285 (0, [some (zr l0), some (zi l1), some (zi l2), some (zi l3), some (zi l4), none, none, none, none], [], w) := rfl
theorem zen_286 (d : Nat) (l0 : Nat) (l1 : Int) (w : zmW) : zmD zP (d + 1) 286 [zr l0, zi l1] w = zmE (zmD zP d) zc_286 (0, [some (zr l0), some (zi l1)], [], w) := rfl
theorem zen_287 (d : Nat) (l0 : Nat) (l1 : Int) (w : zmW) : zmD zP (d + 1) 287 [zr l0, zi l1] w = zmE (zmD zP d) zc_287 (0, [some (zr l0), some (zi l1)], [], w) := rfl
theorem zen_288 (d : Nat) (l0 : Nat) (l1 : Int) (w : zmW) : zmD zP (d + 1) 288 [zr l0, zi l1] w = zmE (zmD zP d) zc_288 (0, [some (zr l0), some (zi l1), none, none, none, none], [], w) := rfl
theorem zen_289 (d : Nat) (l0 : Nat) (l1 : Int) (w : zmW) : zmD zP (d + 1) 289 [zr l0, zi l1] w = zmE (zmD zP d) zc_289 (0, [some (zr l0), some (zi l1)], [], w) := rfl
theorem zen_290 (d : Nat) (l0 : Nat) (l1 : Int) (w : zmW) : zmD zP (d + 1) 290 [zr l0, zi l1] w = zmE (zmD zP d) zc_290 (0, [some (zr l0), some (zi l1)], [], w) := rfl
theorem zen_291 (d : Nat) (l0 : Nat) (l1 : Int) (w : zmW) : zmD zP (d + 1) 291 [zr l0, zi l1] w = zmE (zmD zP d) zc_291 (0, [some (zr l0), some (zi l1)], [], w) := rfl
theorem zen_292 (d : Nat) (l0 : Nat) (l1 : Int) (w : zmW) : zmD zP (d + 1) 292 [zr l0, zi l1] w = zmE (zmD zP d) zc_292 (0, [some (zr l0), some (zi l1)], [], w) := rfl
theorem zen_293 (d : Nat) (l0 : Nat) (w : zmW) : zmD zP (d + 1) 293 [zr l0] w = zmE (zmD zP d) zc_293 (0, [some (zr l0)], [], w) := rfl
theorem zen_294 (d : Nat) (l0 : Nat) (w : zmW) : zmD zP (d + 1) 294 [zr l0] w = zmE (zmD zP d) zc_294 (0, [some (zr l0), none], [], w) := rfl
theorem zen_295 (d : Nat) (l0 : Nat) (l1 : Int) (l2 : Int) (w : zmW) : zmD zP (d + 1) 295 [zr l0, zi l1, zi l2] w = zmE (zmD zP d) zc_295 (0, [some (zr l0), some (zi l1), some (zi l2), none, none], [], w) := rfl
theorem zen_296 (d : Nat) (l0 : Nat) (l1 : Int) (w : zmW) : zmD zP (d + 1) 296 [zr l0, zi l1] w = zmE (zmD zP d) zc_296 (0, [some (zr l0), some (zi l1), none], [], w) := rfl
theorem zen_297 (d : Nat) (l0 : Nat) (l1 : Int) (l2 : Int) (l3 : Int) (w : zmW) : zmD zP (d + 1) 297 [zr l0, zi l1, zi l2, zi l3] w = zmE (zmD zP d) zc_297 (0, [some (zr l0), some (zi l1), some (zi l2), some (zi l3)], [], w) := rfl
theorem zen_298 (d : Nat) (l0 : Nat) (l1 : Int) (l2 : Int) (w : zmW) : zmD zP (d + 1) 298 [zr l0, zi l1, zi l2] w = zmE (zmD zP d) zc_298 (0, [some (zr l0), some (zi l1), some (zi l2)], [], w) := rfl
theorem zen_299 (d : Nat) (l0 : Nat) (l1 : Int) (l2 : Int) (w : zmW) : zmD zP (d + 1) 299 [zr l0, zi l1, zi l2] w = zmE (zmD zP d) zc_299 (0, [some (zr l0), some (zi l1), some (zi l2), none], [], w) := rfl
theorem zen_300 (d : Nat) (l0 : Nat) (l1 : Int) (l2 : Int) (w : zmW) : zmD zP (d + 1) 300 [zr l0, zi l1, zi l2] w = zmE (zmD zP d) zc_300 (0, [some (zr l0), some (zi l1), some (zi l2), none, none], [], w) := rfl
theorem zen_301 (d : Nat) (l0 : Nat) (l1 : Int) (w : zmW) : zmD zP (d + 1) 301 [zr l0, zi l1] w = zmE (zmD zP d) zc_301 (0, [some (zr l0), some (zi l1), none, none], [], w) := rfl
theorem zen_302 (d : Nat) (l0 : Nat) (l1 : Int) (w : zmW) : zmD zP (d + 1) 302 [zr l0, zi l1] w = zmE (zmD zP d) zc_302 (0, [some (zr l0), some (zi l1), none, none], [], w) := rfl
theorem zen_303 (d : Nat) (l0 : Nat) (w : zmW) : zmD zP (d + 1) 303 [zr l0] w = zmE (zmD zP d) zc_303 (0, [some (zr l0), none, none, none, none, none], [], w) := rfl
