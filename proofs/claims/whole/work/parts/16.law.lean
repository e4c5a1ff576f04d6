/-! the law's own code -/
theorem zw_24 : Cond.classLink "ChessWireLaw" 7 "ChessWire" ∈ zG := zG_at (List.mem_append_left _ (List.mem_of_getElem? (i := 24) rfl)) rfl
theorem zw_25 : Cond.instantiable "ChessWire" 17 ∈ zG := zG_at (List.mem_append_left _ (List.mem_of_getElem? (i := 25) rfl)) rfl
theorem zw_26 : Cond.methodLink "ChessWireLaw" 9 (zMI 0).1 ∈ zG := zG_at (List.mem_append_left _ (List.mem_of_getElem? (i := 26) rfl)) rfl
theorem zw_27 : Cond.instanceMethod (zMI 0).1 ∈ zG := zG_at (List.mem_append_left _ (List.mem_of_getElem? (i := 27) rfl)) rfl
theorem zw_28 : zcw 0 ∈ zG := zG_at (List.mem_append_left _ (List.mem_of_getElem? (i := 28) rfl)) rfl
theorem zw_355 : Cond.methodLink "ChessWireLaw" 13 (zMI 14).1 ∈ zG := zG_at (List.mem_append_right _ (List.mem_append_left _ (List.mem_of_getElem? (i := 115) rfl))) rfl
theorem zw_356 : Cond.instanceMethod (zMI 14).1 ∈ zG := zG_at (List.mem_append_right _ (List.mem_append_left _ (List.mem_of_getElem? (i := 116) rfl))) rfl
theorem zw_357 : Cond.selects (zMI 14).1.cls (zMI 14).1 (zMI 14).1 ∈ zG := zG_at (List.mem_append_right _ (List.mem_append_left _ (List.mem_of_getElem? (i := 117) rfl))) rfl
theorem zw_358 : zcw 14 ∈ zG := zG_at (List.mem_append_right _ (List.mem_append_left _ (List.mem_of_getElem? (i := 118) rfl))) rfl
theorem zw_513 : Cond.methodLink "ChessWireLaw" 18 (zMI 53).1 ∈ zG := zG_at (List.mem_append_right _ (List.mem_append_right _ (List.mem_append_left _ (List.mem_of_getElem? (i := 33) rfl)))) rfl
theorem zw_514 : Cond.instanceMethod (zMI 53).1 ∈ zG := zG_at (List.mem_append_right _ (List.mem_append_right _ (List.mem_append_left _ (List.mem_of_getElem? (i := 34) rfl)))) rfl
theorem zw_515 : Cond.selects (zMI 53).1.cls (zMI 53).1 (zMI 53).1 ∈ zG := zG_at (List.mem_append_right _ (List.mem_append_right _ (List.mem_append_left _ (List.mem_of_getElem? (i := 35) rfl)))) rfl
theorem zw_516 : zcw 53 ∈ zG := zG_at (List.mem_append_right _ (List.mem_append_right _ (List.mem_append_left _ (List.mem_of_getElem? (i := 36) rfl)))) rfl
theorem zw_521 : Cond.methodLink "ChessWireLaw" 23 (zMI 55).1 ∈ zG := zG_at (List.mem_append_right _ (List.mem_append_right _ (List.mem_append_left _ (List.mem_of_getElem? (i := 41) rfl)))) rfl
theorem zw_550 : Cond.methodLink "ChessWireLaw" 27 (zMI 62).1 ∈ zG := zG_at (List.mem_append_right _ (List.mem_append_right _ (List.mem_append_left _ (List.mem_of_getElem? (i := 70) rfl)))) rfl
theorem zw_581 : Cond.methodLink "ChessWireLaw" 31 (zMI 71).1 ∈ zG := zG_at (List.mem_append_right _ (List.mem_append_right _ (List.mem_append_left _ (List.mem_of_getElem? (i := 101) rfl)))) rfl
theorem zw_589 : Cond.methodLink "ChessWireLaw" 36 (zMI 73).1 ∈ zG := zG_at (List.mem_append_right _ (List.mem_append_right _ (List.mem_append_left _ (List.mem_of_getElem? (i := 109) rfl)))) rfl
theorem zw_710 : Cond.methodLink "ChessWireLaw" 40 (zMI 100).1 ∈ zG := zG_at (List.mem_append_right _ (List.mem_append_right _ (List.mem_append_left _ (List.mem_of_getElem? (i := 230) rfl)))) rfl
theorem zw_711 : Cond.instanceMethod (zMI 100).1 ∈ zG := zG_at (List.mem_append_right _ (List.mem_append_right _ (List.mem_append_left _ (List.mem_of_getElem? (i := 231) rfl)))) rfl
theorem zw_712 : Cond.selects (zMI 100).1.cls (zMI 100).1 (zMI 100).1 ∈ zG := zG_at (List.mem_append_right _ (List.mem_append_right _ (List.mem_append_left _ (List.mem_of_getElem? (i := 232) rfl)))) rfl
theorem zw_713 : zcw 100 ∈ zG := zG_at (List.mem_append_right _ (List.mem_append_right _ (List.mem_append_left _ (List.mem_of_getElem? (i := 233) rfl)))) rfl
theorem zw_725 : Cond.methodLink "ChessWireLaw" 44 (zMI 104).1 ∈ zG := zG_at (List.mem_append_right _ (List.mem_append_right _ (List.mem_append_right _ (List.mem_append_left _ (List.mem_of_getElem? (i := 5) rfl))))) rfl
theorem zw_733 : Cond.methodLink "ChessWireLaw" 48 (zMI 106).1 ∈ zG := zG_at (List.mem_append_right _ (List.mem_append_right _ (List.mem_append_right _ (List.mem_append_left _ (List.mem_of_getElem? (i := 13) rfl))))) rfl
theorem zw_734 : Cond.instanceMethod (zMI 106).1 ∈ zG := zG_at (List.mem_append_right _ (List.mem_append_right _ (List.mem_append_right _ (List.mem_append_left _ (List.mem_of_getElem? (i := 14) rfl))))) rfl
theorem zw_735 : Cond.selects (zMI 106).1.cls (zMI 106).1 (zMI 106).1 ∈ zG := zG_at (List.mem_append_right _ (List.mem_append_right _ (List.mem_append_right _ (List.mem_append_left _ (List.mem_of_getElem? (i := 15) rfl))))) rfl
theorem zw_736 : zcw 106 ∈ zG := zG_at (List.mem_append_right _ (List.mem_append_right _ (List.mem_append_right _ (List.mem_append_left _ (List.mem_of_getElem? (i := 16) rfl))))) rfl
theorem zw_746 : Cond.methodLink "ChessWireLaw" 52 (zMI 109).1 ∈ zG := zG_at (List.mem_append_right _ (List.mem_append_right _ (List.mem_append_right _ (List.mem_append_left _ (List.mem_of_getElem? (i := 26) rfl))))) rfl
theorem zw_747 : Cond.instanceMethod (zMI 109).1 ∈ zG := zG_at (List.mem_append_right _ (List.mem_append_right _ (List.mem_append_right _ (List.mem_append_left _ (List.mem_of_getElem? (i := 27) rfl))))) rfl
theorem zw_748 : Cond.selects (zMI 109).1.cls (zMI 109).1 (zMI 109).1 ∈ zG := zG_at (List.mem_append_right _ (List.mem_append_right _ (List.mem_append_right _ (List.mem_append_left _ (List.mem_of_getElem? (i := 28) rfl))))) rfl
theorem zw_749 : zcw 109 ∈ zG := zG_at (List.mem_append_right _ (List.mem_append_right _ (List.mem_append_right _ (List.mem_append_left _ (List.mem_of_getElem? (i := 29) rfl))))) rfl
theorem zw_770 : Cond.methodLink "ChessWireLaw" 56 (zMI 115).1 ∈ zG := zG_at (List.mem_append_right _ (List.mem_append_right _ (List.mem_append_right _ (List.mem_append_left _ (List.mem_of_getElem? (i := 50) rfl))))) rfl
theorem zw_771 : Cond.instanceMethod (zMI 115).1 ∈ zG := zG_at (List.mem_append_right _ (List.mem_append_right _ (List.mem_append_right _ (List.mem_append_left _ (List.mem_of_getElem? (i := 51) rfl))))) rfl
theorem zw_772 : Cond.selects (zMI 115).1.cls (zMI 115).1 (zMI 115).1 ∈ zG := zG_at (List.mem_append_right _ (List.mem_append_right _ (List.mem_append_right _ (List.mem_append_left _ (List.mem_of_getElem? (i := 52) rfl))))) rfl
theorem zw_773 : zcw 115 ∈ zG := zG_at (List.mem_append_right _ (List.mem_append_right _ (List.mem_append_right _ (List.mem_append_left _ (List.mem_of_getElem? (i := 53) rfl))))) rfl
theorem zw_774 : Cond.methodLink "ChessWireLaw" 60 (zMI 116).1 ∈ zG := zG_at (List.mem_append_right _ (List.mem_append_right _ (List.mem_append_right _ (List.mem_append_left _ (List.mem_of_getElem? (i := 54) rfl))))) rfl
theorem zw_798 : Cond.methodLink "ChessWireLaw" 64 (zMI 121).1 ∈ zG := zG_at (List.mem_append_right _ (List.mem_append_right _ (List.mem_append_right _ (List.mem_append_left _ (List.mem_of_getElem? (i := 78) rfl))))) rfl
theorem zw_802 : Cond.methodLink "ChessWireLaw" 68 (zMI 122).1 ∈ zG := zG_at (List.mem_append_right _ (List.mem_append_right _ (List.mem_append_right _ (List.mem_append_left _ (List.mem_of_getElem? (i := 82) rfl))))) rfl
theorem zw_816 : Cond.methodLink "ChessWireLaw" 72 (zMI 125).1 ∈ zG := zG_at (List.mem_append_right _ (List.mem_append_right _ (List.mem_append_right _ (List.mem_append_left _ (List.mem_of_getElem? (i := 96) rfl))))) rfl
theorem zw_825 : Cond.methodLink "ChessWireLaw" 76 (zMI 127).1 ∈ zG := zG_at (List.mem_append_right _ (List.mem_append_right _ (List.mem_append_right _ (List.mem_append_left _ (List.mem_of_getElem? (i := 105) rfl))))) rfl
theorem zw_826 : Cond.instanceMethod (zMI 127).1 ∈ zG := zG_at (List.mem_append_right _ (List.mem_append_right _ (List.mem_append_right _ (List.mem_append_left _ (List.mem_of_getElem? (i := 106) rfl))))) rfl
theorem zw_827 : Cond.selects (zMI 127).1.cls (zMI 127).1 (zMI 127).1 ∈ zG := zG_at (List.mem_append_right _ (List.mem_append_right _ (List.mem_append_right _ (List.mem_append_left _ (List.mem_of_getElem? (i := 107) rfl))))) rfl
theorem zw_828 : zcw 127 ∈ zG := zG_at (List.mem_append_right _ (List.mem_append_right _ (List.mem_append_right _ (List.mem_append_left _ (List.mem_of_getElem? (i := 108) rfl))))) rfl
theorem zw_829 : Cond.methodLink "ChessWireLaw" 80 (zMI 128).1 ∈ zG := zG_at (List.mem_append_right _ (List.mem_append_right _ (List.mem_append_right _ (List.mem_append_left _ (List.mem_of_getElem? (i := 109) rfl))))) rfl
theorem zw_854 : Cond.methodLink "ChessWireLaw" 84 (zMI 134).1 ∈ zG := zG_at (List.mem_append_right _ (List.mem_append_right _ (List.mem_append_right _ (List.mem_append_left _ (List.mem_of_getElem? (i := 134) rfl))))) rfl
theorem zw_855 : Cond.instanceMethod (zMI 134).1 ∈ zG := zG_at (List.mem_append_right _ (List.mem_append_right _ (List.mem_append_right _ (List.mem_append_left _ (List.mem_of_getElem? (i := 135) rfl))))) rfl
theorem zw_856 : Cond.selects (zMI 134).1.cls (zMI 134).1 (zMI 134).1 ∈ zG := zG_at (List.mem_append_right _ (List.mem_append_right _ (List.mem_append_right _ (List.mem_append_left _ (List.mem_of_getElem? (i := 136) rfl))))) rfl
theorem zw_857 : zcw 134 ∈ zG := zG_at (List.mem_append_right _ (List.mem_append_right _ (List.mem_append_right _ (List.mem_append_left _ (List.mem_of_getElem? (i := 137) rfl))))) rfl
theorem zw_894 : Cond.methodLink "ChessWireLaw" 88 (zMI 141).1 ∈ zG := zG_at (List.mem_append_right _ (List.mem_append_right _ (List.mem_append_right _ (List.mem_append_left _ (List.mem_of_getElem? (i := 174) rfl))))) rfl
theorem zw_895 : Cond.instanceMethod (zMI 141).1 ∈ zG := zG_at (List.mem_append_right _ (List.mem_append_right _ (List.mem_append_right _ (List.mem_append_left _ (List.mem_of_getElem? (i := 175) rfl))))) rfl
theorem zw_896 : Cond.selects (zMI 141).1.cls (zMI 141).1 (zMI 141).1 ∈ zG := zG_at (List.mem_append_right _ (List.mem_append_right _ (List.mem_append_right _ (List.mem_append_left _ (List.mem_of_getElem? (i := 176) rfl))))) rfl
theorem zw_897 : zcw 141 ∈ zG := zG_at (List.mem_append_right _ (List.mem_append_right _ (List.mem_append_right _ (List.mem_append_left _ (List.mem_of_getElem? (i := 177) rfl))))) rfl
theorem zw_924 : Cond.methodLink "ChessWireLaw" 93 (zMI 149).1 ∈ zG := zG_at (List.mem_append_right _ (List.mem_append_right _ (List.mem_append_right _ (List.mem_append_left _ (List.mem_of_getElem? (i := 204) rfl))))) rfl
theorem zw_942 : Cond.methodLink "ChessWireLaw" 98 (zMI 153).1 ∈ zG := zG_at (List.mem_append_right _ (List.mem_append_right _ (List.mem_append_right _ (List.mem_append_left _ (List.mem_of_getElem? (i := 222) rfl))))) rfl
theorem zw_978 : Cond.methodLink "ChessWireLaw" 102 (zMI 160).1 ∈ zG := zG_at (List.mem_append_right _ (List.mem_append_right _ (List.mem_append_right _ (List.mem_append_right _ (List.mem_append_left _ (List.mem_of_getElem? (i := 18) rfl)))))) rfl
theorem zw_979 : Cond.instanceMethod (zMI 160).1 ∈ zG := zG_at (List.mem_append_right _ (List.mem_append_right _ (List.mem_append_right _ (List.mem_append_right _ (List.mem_append_left _ (List.mem_of_getElem? (i := 19) rfl)))))) rfl
theorem zw_980 : Cond.selects (zMI 160).1.cls (zMI 160).1 (zMI 160).1 ∈ zG := zG_at (List.mem_append_right _ (List.mem_append_right _ (List.mem_append_right _ (List.mem_append_right _ (List.mem_append_left _ (List.mem_of_getElem? (i := 20) rfl)))))) rfl
theorem zw_981 : zcw 160 ∈ zG := zG_at (List.mem_append_right _ (List.mem_append_right _ (List.mem_append_right _ (List.mem_append_right _ (List.mem_append_left _ (List.mem_of_getElem? (i := 21) rfl)))))) rfl
theorem zw_986 : Cond.methodLink "ChessWireLaw" 106 (zMI 162).1 ∈ zG := zG_at (List.mem_append_right _ (List.mem_append_right _ (List.mem_append_right _ (List.mem_append_right _ (List.mem_append_left _ (List.mem_of_getElem? (i := 26) rfl)))))) rfl
theorem zw_994 : Cond.methodLink "ChessWireLaw" 110 (zMI 164).1 ∈ zG := zG_at (List.mem_append_right _ (List.mem_append_right _ (List.mem_append_right _ (List.mem_append_right _ (List.mem_append_left _ (List.mem_of_getElem? (i := 34) rfl)))))) rfl
theorem zw_995 : Cond.instanceMethod (zMI 164).1 ∈ zG := zG_at (List.mem_append_right _ (List.mem_append_right _ (List.mem_append_right _ (List.mem_append_right _ (List.mem_append_left _ (List.mem_of_getElem? (i := 35) rfl)))))) rfl
theorem zw_996 : Cond.selects (zMI 164).1.cls (zMI 164).1 (zMI 164).1 ∈ zG := zG_at (List.mem_append_right _ (List.mem_append_right _ (List.mem_append_right _ (List.mem_append_right _ (List.mem_append_left _ (List.mem_of_getElem? (i := 36) rfl)))))) rfl
theorem zw_997 : zcw 164 ∈ zG := zG_at (List.mem_append_right _ (List.mem_append_right _ (List.mem_append_right _ (List.mem_append_right _ (List.mem_append_left _ (List.mem_of_getElem? (i := 37) rfl)))))) rfl
theorem zw_1035 : Cond.methodLink "ChessWireLaw" 114 (zMI 173).1 ∈ zG := zG_at (List.mem_append_right _ (List.mem_append_right _ (List.mem_append_right _ (List.mem_append_right _ (List.mem_append_left _ (List.mem_of_getElem? (i := 75) rfl)))))) rfl
theorem zw_1036 : Cond.instanceMethod (zMI 173).1 ∈ zG := zG_at (List.mem_append_right _ (List.mem_append_right _ (List.mem_append_right _ (List.mem_append_right _ (List.mem_append_left _ (List.mem_of_getElem? (i := 76) rfl)))))) rfl
theorem zw_1037 : Cond.selects (zMI 173).1.cls (zMI 173).1 (zMI 173).1 ∈ zG := zG_at (List.mem_append_right _ (List.mem_append_right _ (List.mem_append_right _ (List.mem_append_right _ (List.mem_append_left _ (List.mem_of_getElem? (i := 77) rfl)))))) rfl
theorem zw_1038 : zcw 173 ∈ zG := zG_at (List.mem_append_right _ (List.mem_append_right _ (List.mem_append_right _ (List.mem_append_right _ (List.mem_append_left _ (List.mem_of_getElem? (i := 78) rfl)))))) rfl
theorem zw_1047 : Cond.methodLink "ChessWireLaw" 118 (zMI 176).1 ∈ zG := zG_at (List.mem_append_right _ (List.mem_append_right _ (List.mem_append_right _ (List.mem_append_right _ (List.mem_append_left _ (List.mem_of_getElem? (i := 87) rfl)))))) rfl
theorem zw_1048 : Cond.instanceMethod (zMI 176).1 ∈ zG := zG_at (List.mem_append_right _ (List.mem_append_right _ (List.mem_append_right _ (List.mem_append_right _ (List.mem_append_left _ (List.mem_of_getElem? (i := 88) rfl)))))) rfl
theorem zw_1049 : Cond.selects (zMI 176).1.cls (zMI 176).1 (zMI 176).1 ∈ zG := zG_at (List.mem_append_right _ (List.mem_append_right _ (List.mem_append_right _ (List.mem_append_right _ (List.mem_append_left _ (List.mem_of_getElem? (i := 89) rfl)))))) rfl
theorem zw_1050 : zcw 176 ∈ zG := zG_at (List.mem_append_right _ (List.mem_append_right _ (List.mem_append_right _ (List.mem_append_right _ (List.mem_append_left _ (List.mem_of_getElem? (i := 90) rfl)))))) rfl
theorem zw_1061 : Cond.methodLink "ChessWireLaw" 123 (zMI 179).1 ∈ zG := zG_at (List.mem_append_right _ (List.mem_append_right _ (List.mem_append_right _ (List.mem_append_right _ (List.mem_append_left _ (List.mem_of_getElem? (i := 101) rfl)))))) rfl
theorem zw_1062 : Cond.instanceMethod (zMI 179).1 ∈ zG := zG_at (List.mem_append_right _ (List.mem_append_right _ (List.mem_append_right _ (List.mem_append_right _ (List.mem_append_left _ (List.mem_of_getElem? (i := 102) rfl)))))) rfl
theorem zw_1063 : Cond.selects (zMI 179).1.cls (zMI 179).1 (zMI 179).1 ∈ zG := zG_at (List.mem_append_right _ (List.mem_append_right _ (List.mem_append_right _ (List.mem_append_right _ (List.mem_append_left _ (List.mem_of_getElem? (i := 103) rfl)))))) rfl
theorem zw_1064 : zcw 179 ∈ zG := zG_at (List.mem_append_right _ (List.mem_append_right _ (List.mem_append_right _ (List.mem_append_right _ (List.mem_append_left _ (List.mem_of_getElem? (i := 104) rfl)))))) rfl
theorem zw_1069 : Cond.methodLink "ChessWireLaw" 127 (zMI 181).1 ∈ zG := zG_at (List.mem_append_right _ (List.mem_append_right _ (List.mem_append_right _ (List.mem_append_right _ (List.mem_append_left _ (List.mem_of_getElem? (i := 109) rfl)))))) rfl
theorem zw_1070 : Cond.instanceMethod (zMI 181).1 ∈ zG := zG_at (List.mem_append_right _ (List.mem_append_right _ (List.mem_append_right _ (List.mem_append_right _ (List.mem_append_left _ (List.mem_of_getElem? (i := 110) rfl)))))) rfl
theorem zw_1071 : Cond.selects (zMI 181).1.cls (zMI 181).1 (zMI 181).1 ∈ zG := zG_at (List.mem_append_right _ (List.mem_append_right _ (List.mem_append_right _ (List.mem_append_right _ (List.mem_append_left _ (List.mem_of_getElem? (i := 111) rfl)))))) rfl
theorem zw_1072 : zcw 181 ∈ zG := zG_at (List.mem_append_right _ (List.mem_append_right _ (List.mem_append_right _ (List.mem_append_right _ (List.mem_append_left _ (List.mem_of_getElem? (i := 112) rfl)))))) rfl
theorem zw_1088 : Cond.methodLink "ChessWireLaw" 131 (zMI 186).1 ∈ zG := zG_at (List.mem_append_right _ (List.mem_append_right _ (List.mem_append_right _ (List.mem_append_right _ (List.mem_append_left _ (List.mem_of_getElem? (i := 128) rfl)))))) rfl
theorem zw_1089 : Cond.instanceMethod (zMI 186).1 ∈ zG := zG_at (List.mem_append_right _ (List.mem_append_right _ (List.mem_append_right _ (List.mem_append_right _ (List.mem_append_left _ (List.mem_of_getElem? (i := 129) rfl)))))) rfl
theorem zw_1090 : Cond.selects (zMI 186).1.cls (zMI 186).1 (zMI 186).1 ∈ zG := zG_at (List.mem_append_right _ (List.mem_append_right _ (List.mem_append_right _ (List.mem_append_right _ (List.mem_append_left _ (List.mem_of_getElem? (i := 130) rfl)))))) rfl
theorem zw_1091 : zcw 186 ∈ zG := zG_at (List.mem_append_right _ (List.mem_append_right _ (List.mem_append_right _ (List.mem_append_right _ (List.mem_append_left _ (List.mem_of_getElem? (i := 131) rfl)))))) rfl
theorem zw_1093 : Cond.methodLink "ChessWireLaw" 135 (zMI 187).1 ∈ zG := zG_at (List.mem_append_right _ (List.mem_append_right _ (List.mem_append_right _ (List.mem_append_right _ (List.mem_append_left _ (List.mem_of_getElem? (i := 133) rfl)))))) rfl
theorem zw_1094 : Cond.instanceMethod (zMI 187).1 ∈ zG := zG_at (List.mem_append_right _ (List.mem_append_right _ (List.mem_append_right _ (List.mem_append_right _ (List.mem_append_left _ (List.mem_of_getElem? (i := 134) rfl)))))) rfl
theorem zw_1095 : Cond.selects (zMI 187).1.cls (zMI 187).1 (zMI 187).1 ∈ zG := zG_at (List.mem_append_right _ (List.mem_append_right _ (List.mem_append_right _ (List.mem_append_right _ (List.mem_append_left _ (List.mem_of_getElem? (i := 135) rfl)))))) rfl
theorem zw_1096 : zcw 187 ∈ zG := zG_at (List.mem_append_right _ (List.mem_append_right _ (List.mem_append_right _ (List.mem_append_right _ (List.mem_append_left _ (List.mem_of_getElem? (i := 136) rfl)))))) rfl
theorem zw_1103 : Cond.methodLink "ChessWireLaw" 140 (zMI 189).1 ∈ zG := zG_at (List.mem_append_right _ (List.mem_append_right _ (List.mem_append_right _ (List.mem_append_right _ (List.mem_append_left _ (List.mem_of_getElem? (i := 143) rfl)))))) rfl
theorem zw_1104 : Cond.instanceMethod (zMI 189).1 ∈ zG := zG_at (List.mem_append_right _ (List.mem_append_right _ (List.mem_append_right _ (List.mem_append_right _ (List.mem_append_left _ (List.mem_of_getElem? (i := 144) rfl)))))) rfl
theorem zw_1105 : Cond.selects (zMI 189).1.cls (zMI 189).1 (zMI 189).1 ∈ zG := zG_at (List.mem_append_right _ (List.mem_append_right _ (List.mem_append_right _ (List.mem_append_right _ (List.mem_append_left _ (List.mem_of_getElem? (i := 145) rfl)))))) rfl
theorem zw_1106 : zcw 189 ∈ zG := zG_at (List.mem_append_right _ (List.mem_append_right _ (List.mem_append_right _ (List.mem_append_right _ (List.mem_append_left _ (List.mem_of_getElem? (i := 146) rfl)))))) rfl
theorem zw_1108 : Cond.methodLink "ChessWireLaw" 144 (zMI 190).1 ∈ zG := zG_at (List.mem_append_right _ (List.mem_append_right _ (List.mem_append_right _ (List.mem_append_right _ (List.mem_append_left _ (List.mem_of_getElem? (i := 148) rfl)))))) rfl
theorem zw_1118 : Cond.methodLink "ChessWireLaw" 148 (zMI 192).1 ∈ zG := zG_at (List.mem_append_right _ (List.mem_append_right _ (List.mem_append_right _ (List.mem_append_right _ (List.mem_append_left _ (List.mem_of_getElem? (i := 158) rfl)))))) rfl
theorem zw_1119 : Cond.instanceMethod (zMI 192).1 ∈ zG := zG_at (List.mem_append_right _ (List.mem_append_right _ (List.mem_append_right _ (List.mem_append_right _ (List.mem_append_left _ (List.mem_of_getElem? (i := 159) rfl)))))) rfl
theorem zw_1120 : Cond.selects (zMI 192).1.cls (zMI 192).1 (zMI 192).1 ∈ zG := zG_at (List.mem_append_right _ (List.mem_append_right _ (List.mem_append_right _ (List.mem_append_right _ (List.mem_append_left _ (List.mem_of_getElem? (i := 160) rfl)))))) rfl
theorem zw_1121 : zcw 192 ∈ zG := zG_at (List.mem_append_right _ (List.mem_append_right _ (List.mem_append_right _ (List.mem_append_right _ (List.mem_append_left _ (List.mem_of_getElem? (i := 161) rfl)))))) rfl
theorem zw_1138 : Cond.classLink "ChessWireLaw" 10 "ChessWireModel" ∈ zG := zG_at (List.mem_append_right _ (List.mem_append_right _ (List.mem_append_right _ (List.mem_append_right _ (List.mem_append_left _ (List.mem_of_getElem? (i := 178) rfl)))))) rfl
theorem zw_1139 : Cond.instantiable "ChessWireModel" 38 ∈ zG := zG_at (List.mem_append_right _ (List.mem_append_right _ (List.mem_append_right _ (List.mem_append_right _ (List.mem_append_left _ (List.mem_of_getElem? (i := 179) rfl)))))) rfl
theorem zw_1140 : Cond.methodLink "ChessWireLaw" 12 (zMI 193).1 ∈ zG := zG_at (List.mem_append_right _ (List.mem_append_right _ (List.mem_append_right _ (List.mem_append_right _ (List.mem_append_left _ (List.mem_of_getElem? (i := 180) rfl)))))) rfl
theorem zw_1141 : Cond.instanceMethod (zMI 193).1 ∈ zG := zG_at (List.mem_append_right _ (List.mem_append_right _ (List.mem_append_right _ (List.mem_append_right _ (List.mem_append_left _ (List.mem_of_getElem? (i := 181) rfl)))))) rfl
theorem zw_1142 : zcw 193 ∈ zG := zG_at (List.mem_append_right _ (List.mem_append_right _ (List.mem_append_right _ (List.mem_append_right _ (List.mem_append_left _ (List.mem_of_getElem? (i := 182) rfl)))))) rfl
theorem zw_1295 : Cond.methodLink "ChessWireLaw" 122 (zMI 203).1 ∈ zG := zG_at (List.mem_append_right _ (List.mem_append_right _ (List.mem_append_right _ (List.mem_append_right _ (List.mem_append_right _ (List.mem_append_left _ (List.mem_of_getElem? (i := 95) rfl))))))) rfl
theorem zw_1296 : Cond.instanceMethod (zMI 203).1 ∈ zG := zG_at (List.mem_append_right _ (List.mem_append_right _ (List.mem_append_right _ (List.mem_append_right _ (List.mem_append_right _ (List.mem_append_left _ (List.mem_of_getElem? (i := 96) rfl))))))) rfl
theorem zw_1297 : Cond.selects (zMI 203).1.cls (zMI 203).1 (zMI 203).1 ∈ zG := zG_at (List.mem_append_right _ (List.mem_append_right _ (List.mem_append_right _ (List.mem_append_right _ (List.mem_append_right _ (List.mem_append_left _ (List.mem_of_getElem? (i := 97) rfl))))))) rfl
theorem zw_1298 : zcw 203 ∈ zG := zG_at (List.mem_append_right _ (List.mem_append_right _ (List.mem_append_right _ (List.mem_append_right _ (List.mem_append_right _ (List.mem_append_left _ (List.mem_of_getElem? (i := 98) rfl))))))) rfl
theorem zw_1308 : Cond.methodLink "ChessWireLaw" 126 (zMI 206).1 ∈ zG := zG_at (List.mem_append_right _ (List.mem_append_right _ (List.mem_append_right _ (List.mem_append_right _ (List.mem_append_right _ (List.mem_append_left _ (List.mem_of_getElem? (i := 108) rfl))))))) rfl
theorem zw_1309 : Cond.instanceMethod (zMI 206).1 ∈ zG := zG_at (List.mem_append_right _ (List.mem_append_right _ (List.mem_append_right _ (List.mem_append_right _ (List.mem_append_right _ (List.mem_append_left _ (List.mem_of_getElem? (i := 109) rfl))))))) rfl
theorem zw_1310 : Cond.selects (zMI 206).1.cls (zMI 206).1 (zMI 206).1 ∈ zG := zG_at (List.mem_append_right _ (List.mem_append_right _ (List.mem_append_right _ (List.mem_append_right _ (List.mem_append_right _ (List.mem_append_left _ (List.mem_of_getElem? (i := 110) rfl))))))) rfl
theorem zw_1311 : zcw 206 ∈ zG := zG_at (List.mem_append_right _ (List.mem_append_right _ (List.mem_append_right _ (List.mem_append_right _ (List.mem_append_right _ (List.mem_append_left _ (List.mem_of_getElem? (i := 111) rfl))))))) rfl
theorem zw_1312 : Cond.methodLink "ChessWireLaw" 130 (zMI 207).1 ∈ zG := zG_at (List.mem_append_right _ (List.mem_append_right _ (List.mem_append_right _ (List.mem_append_right _ (List.mem_append_right _ (List.mem_append_left _ (List.mem_of_getElem? (i := 112) rfl))))))) rfl
theorem zw_1313 : Cond.instanceMethod (zMI 207).1 ∈ zG := zG_at (List.mem_append_right _ (List.mem_append_right _ (List.mem_append_right _ (List.mem_append_right _ (List.mem_append_right _ (List.mem_append_left _ (List.mem_of_getElem? (i := 113) rfl))))))) rfl
theorem zw_1314 : Cond.selects (zMI 207).1.cls (zMI 207).1 (zMI 207).1 ∈ zG := zG_at (List.mem_append_right _ (List.mem_append_right _ (List.mem_append_right _ (List.mem_append_right _ (List.mem_append_right _ (List.mem_append_left _ (List.mem_of_getElem? (i := 114) rfl))))))) rfl
theorem zw_1315 : zcw 207 ∈ zG := zG_at (List.mem_append_right _ (List.mem_append_right _ (List.mem_append_right _ (List.mem_append_right _ (List.mem_append_right _ (List.mem_append_left _ (List.mem_of_getElem? (i := 115) rfl))))))) rfl
theorem zw_1323 : Cond.methodLink "ChessWireLaw" 134 (zMI 210).1 ∈ zG := zG_at (List.mem_append_right _ (List.mem_append_right _ (List.mem_append_right _ (List.mem_append_right _ (List.mem_append_right _ (List.mem_append_left _ (List.mem_of_getElem? (i := 123) rfl))))))) rfl
theorem zw_1324 : Cond.instanceMethod (zMI 210).1 ∈ zG := zG_at (List.mem_append_right _ (List.mem_append_right _ (List.mem_append_right _ (List.mem_append_right _ (List.mem_append_right _ (List.mem_append_left _ (List.mem_of_getElem? (i := 124) rfl))))))) rfl
theorem zw_1325 : Cond.selects (zMI 210).1.cls (zMI 210).1 (zMI 210).1 ∈ zG := zG_at (List.mem_append_right _ (List.mem_append_right _ (List.mem_append_right _ (List.mem_append_right _ (List.mem_append_right _ (List.mem_append_left _ (List.mem_of_getElem? (i := 125) rfl))))))) rfl
theorem zw_1326 : zcw 210 ∈ zG := zG_at (List.mem_append_right _ (List.mem_append_right _ (List.mem_append_right _ (List.mem_append_right _ (List.mem_append_right _ (List.mem_append_left _ (List.mem_of_getElem? (i := 126) rfl))))))) rfl
theorem zw_1328 : Cond.methodLink "ChessWireLaw" 139 (zMI 211).1 ∈ zG := zG_at (List.mem_append_right _ (List.mem_append_right _ (List.mem_append_right _ (List.mem_append_right _ (List.mem_append_right _ (List.mem_append_left _ (List.mem_of_getElem? (i := 128) rfl))))))) rfl
theorem zw_1329 : Cond.instanceMethod (zMI 211).1 ∈ zG := zG_at (List.mem_append_right _ (List.mem_append_right _ (List.mem_append_right _ (List.mem_append_right _ (List.mem_append_right _ (List.mem_append_left _ (List.mem_of_getElem? (i := 129) rfl))))))) rfl
theorem zw_1330 : Cond.selects (zMI 211).1.cls (zMI 211).1 (zMI 211).1 ∈ zG := zG_at (List.mem_append_right _ (List.mem_append_right _ (List.mem_append_right _ (List.mem_append_right _ (List.mem_append_right _ (List.mem_append_left _ (List.mem_of_getElem? (i := 130) rfl))))))) rfl
theorem zw_1331 : zcw 211 ∈ zG := zG_at (List.mem_append_right _ (List.mem_append_right _ (List.mem_append_right _ (List.mem_append_right _ (List.mem_append_right _ (List.mem_append_left _ (List.mem_of_getElem? (i := 131) rfl))))))) rfl
theorem zw_1332 : Cond.methodLink "ChessWireLaw" 17 (zMI 212).1 ∈ zG := zG_at (List.mem_append_right _ (List.mem_append_right _ (List.mem_append_right _ (List.mem_append_right _ (List.mem_append_right _ (List.mem_append_left _ (List.mem_of_getElem? (i := 132) rfl))))))) rfl
theorem zw_1333 : Cond.instanceMethod (zMI 212).1 ∈ zG := zG_at (List.mem_append_right _ (List.mem_append_right _ (List.mem_append_right _ (List.mem_append_right _ (List.mem_append_right _ (List.mem_append_left _ (List.mem_of_getElem? (i := 133) rfl))))))) rfl
theorem zw_1334 : Cond.selects (zMI 212).1.cls (zMI 212).1 (zMI 212).1 ∈ zG := zG_at (List.mem_append_right _ (List.mem_append_right _ (List.mem_append_right _ (List.mem_append_right _ (List.mem_append_right _ (List.mem_append_left _ (List.mem_of_getElem? (i := 134) rfl))))))) rfl
theorem zw_1335 : zcw 212 ∈ zG := zG_at (List.mem_append_right _ (List.mem_append_right _ (List.mem_append_right _ (List.mem_append_right _ (List.mem_append_right _ (List.mem_append_left _ (List.mem_of_getElem? (i := 135) rfl))))))) rfl
theorem zw_1340 : Cond.methodLink "ChessWireLaw" 22 (zMI 214).1 ∈ zG := zG_at (List.mem_append_right _ (List.mem_append_right _ (List.mem_append_right _ (List.mem_append_right _ (List.mem_append_right _ (List.mem_append_left _ (List.mem_of_getElem? (i := 140) rfl))))))) rfl
theorem zw_1341 : Cond.instanceMethod (zMI 214).1 ∈ zG := zG_at (List.mem_append_right _ (List.mem_append_right _ (List.mem_append_right _ (List.mem_append_right _ (List.mem_append_right _ (List.mem_append_left _ (List.mem_of_getElem? (i := 141) rfl))))))) rfl
theorem zw_1342 : Cond.selects (zMI 214).1.cls (zMI 214).1 (zMI 214).1 ∈ zG := zG_at (List.mem_append_right _ (List.mem_append_right _ (List.mem_append_right _ (List.mem_append_right _ (List.mem_append_right _ (List.mem_append_left _ (List.mem_of_getElem? (i := 142) rfl))))))) rfl
theorem zw_1343 : zcw 214 ∈ zG := zG_at (List.mem_append_right _ (List.mem_append_right _ (List.mem_append_right _ (List.mem_append_right _ (List.mem_append_right _ (List.mem_append_left _ (List.mem_of_getElem? (i := 143) rfl))))))) rfl
theorem zw_1344 : Cond.methodLink "ChessWireLaw" 26 (zMI 215).1 ∈ zG := zG_at (List.mem_append_right _ (List.mem_append_right _ (List.mem_append_right _ (List.mem_append_right _ (List.mem_append_right _ (List.mem_append_left _ (List.mem_of_getElem? (i := 144) rfl))))))) rfl
theorem zw_1345 : Cond.instanceMethod (zMI 215).1 ∈ zG := zG_at (List.mem_append_right _ (List.mem_append_right _ (List.mem_append_right _ (List.mem_append_right _ (List.mem_append_right _ (List.mem_append_left _ (List.mem_of_getElem? (i := 145) rfl))))))) rfl
theorem zw_1346 : Cond.selects (zMI 215).1.cls (zMI 215).1 (zMI 215).1 ∈ zG := zG_at (List.mem_append_right _ (List.mem_append_right _ (List.mem_append_right _ (List.mem_append_right _ (List.mem_append_right _ (List.mem_append_left _ (List.mem_of_getElem? (i := 146) rfl))))))) rfl
theorem zw_1347 : zcw 215 ∈ zG := zG_at (List.mem_append_right _ (List.mem_append_right _ (List.mem_append_right _ (List.mem_append_right _ (List.mem_append_right _ (List.mem_append_left _ (List.mem_of_getElem? (i := 147) rfl))))))) rfl
theorem zw_1385 : Cond.methodLink "ChessWireLaw" 30 (zMI 225).1 ∈ zG := zG_at (List.mem_append_right _ (List.mem_append_right _ (List.mem_append_right _ (List.mem_append_right _ (List.mem_append_right _ (List.mem_append_left _ (List.mem_of_getElem? (i := 185) rfl))))))) rfl
theorem zw_1386 : Cond.instanceMethod (zMI 225).1 ∈ zG := zG_at (List.mem_append_right _ (List.mem_append_right _ (List.mem_append_right _ (List.mem_append_right _ (List.mem_append_right _ (List.mem_append_left _ (List.mem_of_getElem? (i := 186) rfl))))))) rfl
theorem zw_1387 : Cond.selects (zMI 225).1.cls (zMI 225).1 (zMI 225).1 ∈ zG := zG_at (List.mem_append_right _ (List.mem_append_right _ (List.mem_append_right _ (List.mem_append_right _ (List.mem_append_right _ (List.mem_append_left _ (List.mem_of_getElem? (i := 187) rfl))))))) rfl
theorem zw_1388 : zcw 225 ∈ zG := zG_at (List.mem_append_right _ (List.mem_append_right _ (List.mem_append_right _ (List.mem_append_right _ (List.mem_append_right _ (List.mem_append_left _ (List.mem_of_getElem? (i := 188) rfl))))))) rfl
theorem zw_1399 : Cond.methodLink "ChessWireLaw" 35 (zMI 229).1 ∈ zG := zG_at (List.mem_append_right _ (List.mem_append_right _ (List.mem_append_right _ (List.mem_append_right _ (List.mem_append_right _ (List.mem_append_left _ (List.mem_of_getElem? (i := 199) rfl))))))) rfl
theorem zw_1403 : Cond.methodLink "ChessWireLaw" 39 (zMI 230).1 ∈ zG := zG_at (List.mem_append_right _ (List.mem_append_right _ (List.mem_append_right _ (List.mem_append_right _ (List.mem_append_right _ (List.mem_append_left _ (List.mem_of_getElem? (i := 203) rfl))))))) rfl
theorem zw_1404 : Cond.instanceMethod (zMI 230).1 ∈ zG := zG_at (List.mem_append_right _ (List.mem_append_right _ (List.mem_append_right _ (List.mem_append_right _ (List.mem_append_right _ (List.mem_append_left _ (List.mem_of_getElem? (i := 204) rfl))))))) rfl
theorem zw_1405 : Cond.selects (zMI 230).1.cls (zMI 230).1 (zMI 230).1 ∈ zG := zG_at (List.mem_append_right _ (List.mem_append_right _ (List.mem_append_right _ (List.mem_append_right _ (List.mem_append_right _ (List.mem_append_left _ (List.mem_of_getElem? (i := 205) rfl))))))) rfl
theorem zw_1406 : zcw 230 ∈ zG := zG_at (List.mem_append_right _ (List.mem_append_right _ (List.mem_append_right _ (List.mem_append_right _ (List.mem_append_right _ (List.mem_append_left _ (List.mem_of_getElem? (i := 206) rfl))))))) rfl
theorem zw_1452 : Cond.methodLink "ChessWireLaw" 43 (zMI 243).1 ∈ zG := zG_at (List.mem_append_right _ (List.mem_append_right _ (List.mem_append_right _ (List.mem_append_right _ (List.mem_append_right _ (List.mem_append_right _ (List.mem_append_left _ (List.mem_of_getElem? (i := 12) rfl)))))))) rfl
theorem zw_1453 : Cond.instanceMethod (zMI 243).1 ∈ zG := zG_at (List.mem_append_right _ (List.mem_append_right _ (List.mem_append_right _ (List.mem_append_right _ (List.mem_append_right _ (List.mem_append_right _ (List.mem_append_left _ (List.mem_of_getElem? (i := 13) rfl)))))))) rfl
theorem zw_1454 : Cond.selects (zMI 243).1.cls (zMI 243).1 (zMI 243).1 ∈ zG := zG_at (List.mem_append_right _ (List.mem_append_right _ (List.mem_append_right _ (List.mem_append_right _ (List.mem_append_right _ (List.mem_append_right _ (List.mem_append_left _ (List.mem_of_getElem? (i := 14) rfl)))))))) rfl
theorem zw_1455 : zcw 243 ∈ zG := zG_at (List.mem_append_right _ (List.mem_append_right _ (List.mem_append_right _ (List.mem_append_right _ (List.mem_append_right _ (List.mem_append_right _ (List.mem_append_left _ (List.mem_of_getElem? (i := 15) rfl)))))))) rfl
theorem zw_1460 : Cond.methodLink "ChessWireLaw" 47 (zMI 245).1 ∈ zG := zG_at (List.mem_append_right _ (List.mem_append_right _ (List.mem_append_right _ (List.mem_append_right _ (List.mem_append_right _ (List.mem_append_right _ (List.mem_append_left _ (List.mem_of_getElem? (i := 20) rfl)))))))) rfl
theorem zw_1461 : Cond.instanceMethod (zMI 245).1 ∈ zG := zG_at (List.mem_append_right _ (List.mem_append_right _ (List.mem_append_right _ (List.mem_append_right _ (List.mem_append_right _ (List.mem_append_right _ (List.mem_append_left _ (List.mem_of_getElem? (i := 21) rfl)))))))) rfl
theorem zw_1462 : Cond.selects (zMI 245).1.cls (zMI 245).1 (zMI 245).1 ∈ zG := zG_at (List.mem_append_right _ (List.mem_append_right _ (List.mem_append_right _ (List.mem_append_right _ (List.mem_append_right _ (List.mem_append_right _ (List.mem_append_left _ (List.mem_of_getElem? (i := 22) rfl)))))))) rfl
theorem zw_1463 : zcw 245 ∈ zG := zG_at (List.mem_append_right _ (List.mem_append_right _ (List.mem_append_right _ (List.mem_append_right _ (List.mem_append_right _ (List.mem_append_right _ (List.mem_append_left _ (List.mem_of_getElem? (i := 23) rfl)))))))) rfl
theorem zw_1468 : Cond.methodLink "ChessWireLaw" 51 (zMI 247).1 ∈ zG := zG_at (List.mem_append_right _ (List.mem_append_right _ (List.mem_append_right _ (List.mem_append_right _ (List.mem_append_right _ (List.mem_append_right _ (List.mem_append_left _ (List.mem_of_getElem? (i := 28) rfl)))))))) rfl
theorem zw_1476 : Cond.methodLink "ChessWireLaw" 55 (zMI 249).1 ∈ zG := zG_at (List.mem_append_right _ (List.mem_append_right _ (List.mem_append_right _ (List.mem_append_right _ (List.mem_append_right _ (List.mem_append_right _ (List.mem_append_left _ (List.mem_of_getElem? (i := 36) rfl)))))))) rfl
theorem zw_1477 : Cond.instanceMethod (zMI 249).1 ∈ zG := zG_at (List.mem_append_right _ (List.mem_append_right _ (List.mem_append_right _ (List.mem_append_right _ (List.mem_append_right _ (List.mem_append_right _ (List.mem_append_left _ (List.mem_of_getElem? (i := 37) rfl)))))))) rfl
theorem zw_1478 : Cond.selects (zMI 249).1.cls (zMI 249).1 (zMI 249).1 ∈ zG := zG_at (List.mem_append_right _ (List.mem_append_right _ (List.mem_append_right _ (List.mem_append_right _ (List.mem_append_right _ (List.mem_append_right _ (List.mem_append_left _ (List.mem_of_getElem? (i := 38) rfl)))))))) rfl
theorem zw_1479 : zcw 249 ∈ zG := zG_at (List.mem_append_right _ (List.mem_append_right _ (List.mem_append_right _ (List.mem_append_right _ (List.mem_append_right _ (List.mem_append_right _ (List.mem_append_left _ (List.mem_of_getElem? (i := 39) rfl)))))))) rfl
theorem zw_1481 : Cond.methodLink "ChessWireLaw" 59 (zMI 250).1 ∈ zG := zG_at (List.mem_append_right _ (List.mem_append_right _ (List.mem_append_right _ (List.mem_append_right _ (List.mem_append_right _ (List.mem_append_right _ (List.mem_append_left _ (List.mem_of_getElem? (i := 41) rfl)))))))) rfl
theorem zw_1482 : Cond.instanceMethod (zMI 250).1 ∈ zG := zG_at (List.mem_append_right _ (List.mem_append_right _ (List.mem_append_right _ (List.mem_append_right _ (List.mem_append_right _ (List.mem_append_right _ (List.mem_append_left _ (List.mem_of_getElem? (i := 42) rfl)))))))) rfl
theorem zw_1483 : Cond.selects (zMI 250).1.cls (zMI 250).1 (zMI 250).1 ∈ zG := zG_at (List.mem_append_right _ (List.mem_append_right _ (List.mem_append_right _ (List.mem_append_right _ (List.mem_append_right _ (List.mem_append_right _ (List.mem_append_left _ (List.mem_of_getElem? (i := 43) rfl)))))))) rfl
theorem zw_1484 : zcw 250 ∈ zG := zG_at (List.mem_append_right _ (List.mem_append_right _ (List.mem_append_right _ (List.mem_append_right _ (List.mem_append_right _ (List.mem_append_right _ (List.mem_append_left _ (List.mem_of_getElem? (i := 44) rfl)))))))) rfl
theorem zw_1485 : Cond.methodLink "ChessWireLaw" 63 (zMI 251).1 ∈ zG := zG_at (List.mem_append_right _ (List.mem_append_right _ (List.mem_append_right _ (List.mem_append_right _ (List.mem_append_right _ (List.mem_append_right _ (List.mem_append_left _ (List.mem_of_getElem? (i := 45) rfl)))))))) rfl
theorem zw_1486 : Cond.instanceMethod (zMI 251).1 ∈ zG := zG_at (List.mem_append_right _ (List.mem_append_right _ (List.mem_append_right _ (List.mem_append_right _ (List.mem_append_right _ (List.mem_append_right _ (List.mem_append_left _ (List.mem_of_getElem? (i := 46) rfl)))))))) rfl
theorem zw_1487 : Cond.selects (zMI 251).1.cls (zMI 251).1 (zMI 251).1 ∈ zG := zG_at (List.mem_append_right _ (List.mem_append_right _ (List.mem_append_right _ (List.mem_append_right _ (List.mem_append_right _ (List.mem_append_right _ (List.mem_append_left _ (List.mem_of_getElem? (i := 47) rfl)))))))) rfl
theorem zw_1488 : zcw 251 ∈ zG := zG_at (List.mem_append_right _ (List.mem_append_right _ (List.mem_append_right _ (List.mem_append_right _ (List.mem_append_right _ (List.mem_append_right _ (List.mem_append_left _ (List.mem_of_getElem? (i := 48) rfl)))))))) rfl
theorem zw_1517 : Cond.methodLink "ChessWireLaw" 67 (zMI 259).1 ∈ zG := zG_at (List.mem_append_right _ (List.mem_append_right _ (List.mem_append_right _ (List.mem_append_right _ (List.mem_append_right _ (List.mem_append_right _ (List.mem_append_left _ (List.mem_of_getElem? (i := 77) rfl)))))))) rfl
theorem zw_1518 : Cond.instanceMethod (zMI 259).1 ∈ zG := zG_at (List.mem_append_right _ (List.mem_append_right _ (List.mem_append_right _ (List.mem_append_right _ (List.mem_append_right _ (List.mem_append_right _ (List.mem_append_left _ (List.mem_of_getElem? (i := 78) rfl)))))))) rfl
theorem zw_1519 : Cond.selects (zMI 259).1.cls (zMI 259).1 (zMI 259).1 ∈ zG := zG_at (List.mem_append_right _ (List.mem_append_right _ (List.mem_append_right _ (List.mem_append_right _ (List.mem_append_right _ (List.mem_append_right _ (List.mem_append_left _ (List.mem_of_getElem? (i := 79) rfl)))))))) rfl
theorem zw_1520 : zcw 259 ∈ zG := zG_at (List.mem_append_right _ (List.mem_append_right _ (List.mem_append_right _ (List.mem_append_right _ (List.mem_append_right _ (List.mem_append_right _ (List.mem_append_left _ (List.mem_of_getElem? (i := 80) rfl)))))))) rfl
theorem zw_1525 : Cond.methodLink "ChessWireLaw" 71 (zMI 261).1 ∈ zG := zG_at (List.mem_append_right _ (List.mem_append_right _ (List.mem_append_right _ (List.mem_append_right _ (List.mem_append_right _ (List.mem_append_right _ (List.mem_append_left _ (List.mem_of_getElem? (i := 85) rfl)))))))) rfl
theorem zw_1526 : Cond.instanceMethod (zMI 261).1 ∈ zG := zG_at (List.mem_append_right _ (List.mem_append_right _ (List.mem_append_right _ (List.mem_append_right _ (List.mem_append_right _ (List.mem_append_right _ (List.mem_append_left _ (List.mem_of_getElem? (i := 86) rfl)))))))) rfl
theorem zw_1527 : Cond.selects (zMI 261).1.cls (zMI 261).1 (zMI 261).1 ∈ zG := zG_at (List.mem_append_right _ (List.mem_append_right _ (List.mem_append_right _ (List.mem_append_right _ (List.mem_append_right _ (List.mem_append_right _ (List.mem_append_left _ (List.mem_of_getElem? (i := 87) rfl)))))))) rfl
theorem zw_1528 : zcw 261 ∈ zG := zG_at (List.mem_append_right _ (List.mem_append_right _ (List.mem_append_right _ (List.mem_append_right _ (List.mem_append_right _ (List.mem_append_right _ (List.mem_append_left _ (List.mem_of_getElem? (i := 88) rfl)))))))) rfl
theorem zw_1533 : Cond.methodLink "ChessWireLaw" 75 (zMI 263).1 ∈ zG := zG_at (List.mem_append_right _ (List.mem_append_right _ (List.mem_append_right _ (List.mem_append_right _ (List.mem_append_right _ (List.mem_append_right _ (List.mem_append_left _ (List.mem_of_getElem? (i := 93) rfl)))))))) rfl
theorem zw_1534 : Cond.instanceMethod (zMI 263).1 ∈ zG := zG_at (List.mem_append_right _ (List.mem_append_right _ (List.mem_append_right _ (List.mem_append_right _ (List.mem_append_right _ (List.mem_append_right _ (List.mem_append_left _ (List.mem_of_getElem? (i := 94) rfl)))))))) rfl
theorem zw_1535 : Cond.selects (zMI 263).1.cls (zMI 263).1 (zMI 263).1 ∈ zG := zG_at (List.mem_append_right _ (List.mem_append_right _ (List.mem_append_right _ (List.mem_append_right _ (List.mem_append_right _ (List.mem_append_right _ (List.mem_append_left _ (List.mem_of_getElem? (i := 95) rfl)))))))) rfl
theorem zw_1536 : zcw 263 ∈ zG := zG_at (List.mem_append_right _ (List.mem_append_right _ (List.mem_append_right _ (List.mem_append_right _ (List.mem_append_right _ (List.mem_append_right _ (List.mem_append_left _ (List.mem_of_getElem? (i := 96) rfl)))))))) rfl
theorem zw_1545 : Cond.methodLink "ChessWireLaw" 79 (zMI 266).1 ∈ zG := zG_at (List.mem_append_right _ (List.mem_append_right _ (List.mem_append_right _ (List.mem_append_right _ (List.mem_append_right _ (List.mem_append_right _ (List.mem_append_left _ (List.mem_of_getElem? (i := 105) rfl)))))))) rfl
theorem zw_1546 : Cond.instanceMethod (zMI 266).1 ∈ zG := zG_at (List.mem_append_right _ (List.mem_append_right _ (List.mem_append_right _ (List.mem_append_right _ (List.mem_append_right _ (List.mem_append_right _ (List.mem_append_left _ (List.mem_of_getElem? (i := 106) rfl)))))))) rfl
theorem zw_1547 : Cond.selects (zMI 266).1.cls (zMI 266).1 (zMI 266).1 ∈ zG := zG_at (List.mem_append_right _ (List.mem_append_right _ (List.mem_append_right _ (List.mem_append_right _ (List.mem_append_right _ (List.mem_append_right _ (List.mem_append_left _ (List.mem_of_getElem? (i := 107) rfl)))))))) rfl
theorem zw_1548 : zcw 266 ∈ zG := zG_at (List.mem_append_right _ (List.mem_append_right _ (List.mem_append_right _ (List.mem_append_right _ (List.mem_append_right _ (List.mem_append_right _ (List.mem_append_left _ (List.mem_of_getElem? (i := 108) rfl)))))))) rfl
theorem zw_1551 : Cond.methodLink "ChessWireLaw" 83 (zMI 267).1 ∈ zG := zG_at (List.mem_append_right _ (List.mem_append_right _ (List.mem_append_right _ (List.mem_append_right _ (List.mem_append_right _ (List.mem_append_right _ (List.mem_append_left _ (List.mem_of_getElem? (i := 111) rfl)))))))) rfl
theorem zw_1552 : Cond.instanceMethod (zMI 267).1 ∈ zG := zG_at (List.mem_append_right _ (List.mem_append_right _ (List.mem_append_right _ (List.mem_append_right _ (List.mem_append_right _ (List.mem_append_right _ (List.mem_append_left _ (List.mem_of_getElem? (i := 112) rfl)))))))) rfl
theorem zw_1553 : Cond.selects (zMI 267).1.cls (zMI 267).1 (zMI 267).1 ∈ zG := zG_at (List.mem_append_right _ (List.mem_append_right _ (List.mem_append_right _ (List.mem_append_right _ (List.mem_append_right _ (List.mem_append_right _ (List.mem_append_left _ (List.mem_of_getElem? (i := 113) rfl)))))))) rfl
theorem zw_1554 : zcw 267 ∈ zG := zG_at (List.mem_append_right _ (List.mem_append_right _ (List.mem_append_right _ (List.mem_append_right _ (List.mem_append_right _ (List.mem_append_right _ (List.mem_append_left _ (List.mem_of_getElem? (i := 114) rfl)))))))) rfl
theorem zw_1568 : Cond.methodLink "ChessWireLaw" 87 (zMI 271).1 ∈ zG := zG_at (List.mem_append_right _ (List.mem_append_right _ (List.mem_append_right _ (List.mem_append_right _ (List.mem_append_right _ (List.mem_append_right _ (List.mem_append_left _ (List.mem_of_getElem? (i := 128) rfl)))))))) rfl
theorem zw_1569 : Cond.instanceMethod (zMI 271).1 ∈ zG := zG_at (List.mem_append_right _ (List.mem_append_right _ (List.mem_append_right _ (List.mem_append_right _ (List.mem_append_right _ (List.mem_append_right _ (List.mem_append_left _ (List.mem_of_getElem? (i := 129) rfl)))))))) rfl
theorem zw_1570 : Cond.selects (zMI 271).1.cls (zMI 271).1 (zMI 271).1 ∈ zG := zG_at (List.mem_append_right _ (List.mem_append_right _ (List.mem_append_right _ (List.mem_append_right _ (List.mem_append_right _ (List.mem_append_right _ (List.mem_append_left _ (List.mem_of_getElem? (i := 130) rfl)))))))) rfl
theorem zw_1571 : zcw 271 ∈ zG := zG_at (List.mem_append_right _ (List.mem_append_right _ (List.mem_append_right _ (List.mem_append_right _ (List.mem_append_right _ (List.mem_append_right _ (List.mem_append_left _ (List.mem_of_getElem? (i := 131) rfl)))))))) rfl
theorem zw_1592 : Cond.methodLink "ChessWireLaw" 92 (zMI 277).1 ∈ zG := zG_at (List.mem_append_right _ (List.mem_append_right _ (List.mem_append_right _ (List.mem_append_right _ (List.mem_append_right _ (List.mem_append_right _ (List.mem_append_left _ (List.mem_of_getElem? (i := 152) rfl)))))))) rfl
theorem zw_1593 : Cond.instanceMethod (zMI 277).1 ∈ zG := zG_at (List.mem_append_right _ (List.mem_append_right _ (List.mem_append_right _ (List.mem_append_right _ (List.mem_append_right _ (List.mem_append_right _ (List.mem_append_left _ (List.mem_of_getElem? (i := 153) rfl)))))))) rfl
theorem zw_1594 : Cond.selects (zMI 277).1.cls (zMI 277).1 (zMI 277).1 ∈ zG := zG_at (List.mem_append_right _ (List.mem_append_right _ (List.mem_append_right _ (List.mem_append_right _ (List.mem_append_right _ (List.mem_append_right _ (List.mem_append_left _ (List.mem_of_getElem? (i := 154) rfl)))))))) rfl
theorem zw_1595 : zcw 277 ∈ zG := zG_at (List.mem_append_right _ (List.mem_append_right _ (List.mem_append_right _ (List.mem_append_right _ (List.mem_append_right _ (List.mem_append_right _ (List.mem_append_left _ (List.mem_of_getElem? (i := 155) rfl)))))))) rfl
theorem zw_1618 : Cond.methodLink "ChessWireLaw" 97 (zMI 284).1 ∈ zG := zG_at (List.mem_append_right _ (List.mem_append_right _ (List.mem_append_right _ (List.mem_append_right _ (List.mem_append_right _ (List.mem_append_right _ (List.mem_append_left _ (List.mem_of_getElem? (i := 178) rfl)))))))) rfl
theorem zw_1619 : Cond.instanceMethod (zMI 284).1 ∈ zG := zG_at (List.mem_append_right _ (List.mem_append_right _ (List.mem_append_right _ (List.mem_append_right _ (List.mem_append_right _ (List.mem_append_right _ (List.mem_append_left _ (List.mem_of_getElem? (i := 179) rfl)))))))) rfl
theorem zw_1620 : Cond.selects (zMI 284).1.cls (zMI 284).1 (zMI 284).1 ∈ zG := zG_at (List.mem_append_right _ (List.mem_append_right _ (List.mem_append_right _ (List.mem_append_right _ (List.mem_append_right _ (List.mem_append_right _ (List.mem_append_left _ (List.mem_of_getElem? (i := 180) rfl)))))))) rfl
theorem zw_1621 : zcw 284 ∈ zG := zG_at (List.mem_append_right _ (List.mem_append_right _ (List.mem_append_right _ (List.mem_append_right _ (List.mem_append_right _ (List.mem_append_right _ (List.mem_append_left _ (List.mem_of_getElem? (i := 181) rfl)))))))) rfl
theorem zw_1626 : Cond.methodLink "ChessWireLaw" 101 (zMI 286).1 ∈ zG := zG_at (List.mem_append_right _ (List.mem_append_right _ (List.mem_append_right _ (List.mem_append_right _ (List.mem_append_right _ (List.mem_append_right _ (List.mem_append_left _ (List.mem_of_getElem? (i := 186) rfl)))))))) rfl
theorem zw_1627 : Cond.instanceMethod (zMI 286).1 ∈ zG := zG_at (List.mem_append_right _ (List.mem_append_right _ (List.mem_append_right _ (List.mem_append_right _ (List.mem_append_right _ (List.mem_append_right _ (List.mem_append_left _ (List.mem_of_getElem? (i := 187) rfl)))))))) rfl
theorem zw_1628 : Cond.selects (zMI 286).1.cls (zMI 286).1 (zMI 286).1 ∈ zG := zG_at (List.mem_append_right _ (List.mem_append_right _ (List.mem_append_right _ (List.mem_append_right _ (List.mem_append_right _ (List.mem_append_right _ (List.mem_append_left _ (List.mem_of_getElem? (i := 188) rfl)))))))) rfl
theorem zw_1629 : zcw 286 ∈ zG := zG_at (List.mem_append_right _ (List.mem_append_right _ (List.mem_append_right _ (List.mem_append_right _ (List.mem_append_right _ (List.mem_append_right _ (List.mem_append_left _ (List.mem_of_getElem? (i := 189) rfl)))))))) rfl
theorem zw_1642 : Cond.methodLink "ChessWireLaw" 105 (zMI 290).1 ∈ zG := zG_at (List.mem_append_right _ (List.mem_append_right _ (List.mem_append_right _ (List.mem_append_right _ (List.mem_append_right _ (List.mem_append_right _ (List.mem_append_left _ (List.mem_of_getElem? (i := 202) rfl)))))))) rfl
theorem zw_1643 : Cond.instanceMethod (zMI 290).1 ∈ zG := zG_at (List.mem_append_right _ (List.mem_append_right _ (List.mem_append_right _ (List.mem_append_right _ (List.mem_append_right _ (List.mem_append_right _ (List.mem_append_left _ (List.mem_of_getElem? (i := 203) rfl)))))))) rfl
theorem zw_1644 : Cond.selects (zMI 290).1.cls (zMI 290).1 (zMI 290).1 ∈ zG := zG_at (List.mem_append_right _ (List.mem_append_right _ (List.mem_append_right _ (List.mem_append_right _ (List.mem_append_right _ (List.mem_append_right _ (List.mem_append_left _ (List.mem_of_getElem? (i := 204) rfl)))))))) rfl
theorem zw_1645 : zcw 290 ∈ zG := zG_at (List.mem_append_right _ (List.mem_append_right _ (List.mem_append_right _ (List.mem_append_right _ (List.mem_append_right _ (List.mem_append_right _ (List.mem_append_left _ (List.mem_of_getElem? (i := 205) rfl)))))))) rfl
theorem zw_1646 : Cond.methodLink "ChessWireLaw" 109 (zMI 291).1 ∈ zG := zG_at (List.mem_append_right _ (List.mem_append_right _ (List.mem_append_right _ (List.mem_append_right _ (List.mem_append_right _ (List.mem_append_right _ (List.mem_append_left _ (List.mem_of_getElem? (i := 206) rfl)))))))) rfl
theorem zw_1647 : Cond.instanceMethod (zMI 291).1 ∈ zG := zG_at (List.mem_append_right _ (List.mem_append_right _ (List.mem_append_right _ (List.mem_append_right _ (List.mem_append_right _ (List.mem_append_right _ (List.mem_append_left _ (List.mem_of_getElem? (i := 207) rfl)))))))) rfl
theorem zw_1648 : Cond.selects (zMI 291).1.cls (zMI 291).1 (zMI 291).1 ∈ zG := zG_at (List.mem_append_right _ (List.mem_append_right _ (List.mem_append_right _ (List.mem_append_right _ (List.mem_append_right _ (List.mem_append_right _ (List.mem_append_left _ (List.mem_of_getElem? (i := 208) rfl)))))))) rfl
theorem zw_1649 : zcw 291 ∈ zG := zG_at (List.mem_append_right _ (List.mem_append_right _ (List.mem_append_right _ (List.mem_append_right _ (List.mem_append_right _ (List.mem_append_right _ (List.mem_append_left _ (List.mem_of_getElem? (i := 209) rfl)))))))) rfl
theorem zw_1654 : Cond.methodLink "ChessWireLaw" 113 (zMI 293).1 ∈ zG := zG_at (List.mem_append_right _ (List.mem_append_right _ (List.mem_append_right _ (List.mem_append_right _ (List.mem_append_right _ (List.mem_append_right _ (List.mem_append_left _ (List.mem_of_getElem? (i := 214) rfl)))))))) rfl
theorem zw_1655 : Cond.instanceMethod (zMI 293).1 ∈ zG := zG_at (List.mem_append_right _ (List.mem_append_right _ (List.mem_append_right _ (List.mem_append_right _ (List.mem_append_right _ (List.mem_append_right _ (List.mem_append_left _ (List.mem_of_getElem? (i := 215) rfl)))))))) rfl
theorem zw_1656 : Cond.selects (zMI 293).1.cls (zMI 293).1 (zMI 293).1 ∈ zG := zG_at (List.mem_append_right _ (List.mem_append_right _ (List.mem_append_right _ (List.mem_append_right _ (List.mem_append_right _ (List.mem_append_right _ (List.mem_append_left _ (List.mem_of_getElem? (i := 216) rfl)))))))) rfl
theorem zw_1657 : zcw 293 ∈ zG := zG_at (List.mem_append_right _ (List.mem_append_right _ (List.mem_append_right _ (List.mem_append_right _ (List.mem_append_right _ (List.mem_append_right _ (List.mem_append_left _ (List.mem_of_getElem? (i := 217) rfl)))))))) rfl
theorem zw_1682 : Cond.methodLink "ChessWireLaw" 117 (zMI 300).1 ∈ zG := zG_at (List.mem_append_right _ (List.mem_append_right _ (List.mem_append_right _ (List.mem_append_right _ (List.mem_append_right _ (List.mem_append_right _ (List.mem_append_right _ (List.mem_of_getElem? (i := 2) rfl)))))))) rfl
theorem zw_1683 : Cond.instanceMethod (zMI 300).1 ∈ zG := zG_at (List.mem_append_right _ (List.mem_append_right _ (List.mem_append_right _ (List.mem_append_right _ (List.mem_append_right _ (List.mem_append_right _ (List.mem_append_right _ (List.mem_of_getElem? (i := 3) rfl)))))))) rfl
theorem zw_1684 : Cond.selects (zMI 300).1.cls (zMI 300).1 (zMI 300).1 ∈ zG := zG_at (List.mem_append_right _ (List.mem_append_right _ (List.mem_append_right _ (List.mem_append_right _ (List.mem_append_right _ (List.mem_append_right _ (List.mem_append_right _ (List.mem_of_getElem? (i := 4) rfl)))))))) rfl
theorem zw_1685 : zcw 300 ∈ zG := zG_at (List.mem_append_right _ (List.mem_append_right _ (List.mem_append_right _ (List.mem_append_right _ (List.mem_append_right _ (List.mem_append_right _ (List.mem_append_right _ (List.mem_of_getElem? (i := 5) rfl)))))))) rfl
theorem zw_1686 : Cond.methodLink "ChessWireLaw" 143 (zMI 301).1 ∈ zG := zG_at (List.mem_append_right _ (List.mem_append_right _ (List.mem_append_right _ (List.mem_append_right _ (List.mem_append_right _ (List.mem_append_right _ (List.mem_append_right _ (List.mem_of_getElem? (i := 6) rfl)))))))) rfl
theorem zw_1687 : Cond.instanceMethod (zMI 301).1 ∈ zG := zG_at (List.mem_append_right _ (List.mem_append_right _ (List.mem_append_right _ (List.mem_append_right _ (List.mem_append_right _ (List.mem_append_right _ (List.mem_append_right _ (List.mem_of_getElem? (i := 7) rfl)))))))) rfl
theorem zw_1688 : Cond.selects (zMI 301).1.cls (zMI 301).1 (zMI 301).1 ∈ zG := zG_at (List.mem_append_right _ (List.mem_append_right _ (List.mem_append_right _ (List.mem_append_right _ (List.mem_append_right _ (List.mem_append_right _ (List.mem_append_right _ (List.mem_of_getElem? (i := 8) rfl)))))))) rfl
theorem zw_1689 : zcw 301 ∈ zG := zG_at (List.mem_append_right _ (List.mem_append_right _ (List.mem_append_right _ (List.mem_append_right _ (List.mem_append_right _ (List.mem_append_right _ (List.mem_append_right _ (List.mem_of_getElem? (i := 9) rfl)))))))) rfl
theorem zw_1690 : Cond.methodLink "ChessWireLaw" 147 (zMI 302).1 ∈ zG := zG_at (List.mem_append_right _ (List.mem_append_right _ (List.mem_append_right _ (List.mem_append_right _ (List.mem_append_right _ (List.mem_append_right _ (List.mem_append_right _ (List.mem_of_getElem? (i := 10) rfl)))))))) rfl
theorem zw_1694 : Cond.methodLink "ChessWireLaw" 152 (zMI 303).1 ∈ zG := zG_at (List.mem_append_right _ (List.mem_append_right _ (List.mem_append_right _ (List.mem_append_right _ (List.mem_append_right _ (List.mem_append_right _ (List.mem_append_right _ (List.mem_of_getElem? (i := 14) rfl)))))))) rfl
theorem zw_1695 : Cond.instanceMethod (zMI 303).1 ∈ zG := zG_at (List.mem_append_right _ (List.mem_append_right _ (List.mem_append_right _ (List.mem_append_right _ (List.mem_append_right _ (List.mem_append_right _ (List.mem_append_right _ (List.mem_of_getElem? (i := 15) rfl)))))))) rfl
theorem zw_1696 : Cond.selects (zMI 303).1.cls (zMI 303).1 (zMI 303).1 ∈ zG := zG_at (List.mem_append_right _ (List.mem_append_right _ (List.mem_append_right _ (List.mem_append_right _ (List.mem_append_right _ (List.mem_append_right _ (List.mem_append_right _ (List.mem_of_getElem? (i := 16) rfl)))))))) rfl
theorem zw_1697 : zcw 303 ∈ zG := zG_at (List.mem_append_right _ (List.mem_append_right _ (List.mem_append_right _ (List.mem_append_right _ (List.mem_append_right _ (List.mem_append_right _ (List.mem_append_right _ (List.mem_of_getElem? (i := 17) rfl)))))))) rfl
theorem zq_0 : zBI 0 0 0 := ⟨⟨by decide +kernel, by decide +kernel, by decide +kernel, zw_28, zw_1⟩, zw_27, by decide +kernel, by decide +kernel, rfl⟩
theorem zq_14 : zBV 14 2 0 := ⟨⟨by decide +kernel, by decide +kernel, by decide +kernel, zw_358, zw_1⟩, zw_356, zw_357, by decide +kernel, by decide +kernel⟩
theorem zq_53 : zBV 53 1 0 := ⟨⟨by decide +kernel, by decide +kernel, by decide +kernel, zw_516, zw_1⟩, zw_514, zw_515, by decide +kernel, by decide +kernel⟩
theorem zq_100 : zBV 100 1 0 := ⟨⟨by decide +kernel, by decide +kernel, by decide +kernel, zw_713, zw_1⟩, zw_711, zw_712, by decide +kernel, by decide +kernel⟩
theorem zq_106 : zBV 106 1 0 := ⟨⟨by decide +kernel, by decide +kernel, by decide +kernel, zw_736, zw_1⟩, zw_734, zw_735, by decide +kernel, by decide +kernel⟩
theorem zq_109 : zBV 109 1 0 := ⟨⟨by decide +kernel, by decide +kernel, by decide +kernel, zw_749, zw_1⟩, zw_747, zw_748, by decide +kernel, by decide +kernel⟩
theorem zq_115 : zBV 115 0 0 := ⟨⟨by decide +kernel, by decide +kernel, by decide +kernel, zw_773, zw_1⟩, zw_771, zw_772, by decide +kernel, by decide +kernel⟩
theorem zq_127 : zBV 127 2 0 := ⟨⟨by decide +kernel, by decide +kernel, by decide +kernel, zw_828, zw_1⟩, zw_826, zw_827, by decide +kernel, by decide +kernel⟩
theorem zq_134 : zBV 134 2 0 := ⟨⟨by decide +kernel, by decide +kernel, by decide +kernel, zw_857, zw_1⟩, zw_855, zw_856, by decide +kernel, by decide +kernel⟩
theorem zq_141 : zBV 141 4 0 := ⟨⟨by decide +kernel, by decide +kernel, by decide +kernel, zw_897, zw_1⟩, zw_895, zw_896, by decide +kernel, by decide +kernel⟩
theorem zq_160 : zBV 160 1 0 := ⟨⟨by decide +kernel, by decide +kernel, by decide +kernel, zw_981, zw_1⟩, zw_979, zw_980, by decide +kernel, by decide +kernel⟩
theorem zq_164 : zBV 164 0 0 := ⟨⟨by decide +kernel, by decide +kernel, by decide +kernel, zw_997, zw_1⟩, zw_995, zw_996, by decide +kernel, by decide +kernel⟩
theorem zq_173 : zBV 173 2 0 := ⟨⟨by decide +kernel, by decide +kernel, by decide +kernel, zw_1038, zw_1⟩, zw_1036, zw_1037, by decide +kernel, by decide +kernel⟩
theorem zq_176 : zBV 176 3 0 := ⟨⟨by decide +kernel, by decide +kernel, by decide +kernel, zw_1050, zw_1⟩, zw_1048, zw_1049, by decide +kernel, by decide +kernel⟩
theorem zq_179 : zBV 179 1 0 := ⟨⟨by decide +kernel, by decide +kernel, by decide +kernel, zw_1064, zw_1⟩, zw_1062, zw_1063, by decide +kernel, by decide +kernel⟩
theorem zq_181 : zBV 181 4 0 := ⟨⟨by decide +kernel, by decide +kernel, by decide +kernel, zw_1072, zw_1⟩, zw_1070, zw_1071, by decide +kernel, by decide +kernel⟩
theorem zq_186 : zBV 186 3 0 := ⟨⟨by decide +kernel, by decide +kernel, by decide +kernel, zw_1091, zw_1⟩, zw_1089, zw_1090, by decide +kernel, by decide +kernel⟩
theorem zq_187 : zBV 187 5 0 := ⟨⟨by decide +kernel, by decide +kernel, by decide +kernel, zw_1096, zw_1⟩, zw_1094, zw_1095, by decide +kernel, by decide +kernel⟩
theorem zq_189 : zBV 189 1 0 := ⟨⟨by decide +kernel, by decide +kernel, by decide +kernel, zw_1106, zw_1⟩, zw_1104, zw_1105, by decide +kernel, by decide +kernel⟩
theorem zq_192 : zBV 192 0 0 := ⟨⟨by decide +kernel, by decide +kernel, by decide +kernel, zw_1121, zw_1⟩, zw_1119, zw_1120, by decide +kernel, by decide +kernel⟩
theorem zq_193 : zBI 193 0 12 := ⟨⟨by decide +kernel, by decide +kernel, by decide +kernel, zw_1142, zw_14⟩, zw_1141, by decide +kernel, by decide +kernel, rfl⟩
theorem zq_203 : zBV 203 3 12 := ⟨⟨by decide +kernel, by decide +kernel, by decide +kernel, zw_1298, zw_14⟩, zw_1296, zw_1297, by decide +kernel, by decide +kernel⟩
theorem zq_206 : zBV 206 1 12 := ⟨⟨by decide +kernel, by decide +kernel, by decide +kernel, zw_1311, zw_14⟩, zw_1309, zw_1310, by decide +kernel, by decide +kernel⟩
theorem zq_207 : zBV 207 4 12 := ⟨⟨by decide +kernel, by decide +kernel, by decide +kernel, zw_1315, zw_14⟩, zw_1313, zw_1314, by decide +kernel, by decide +kernel⟩
theorem zq_210 : zBV 210 3 12 := ⟨⟨by decide +kernel, by decide +kernel, by decide +kernel, zw_1326, zw_14⟩, zw_1324, zw_1325, by decide +kernel, by decide +kernel⟩
theorem zq_211 : zBV 211 5 12 := ⟨⟨by decide +kernel, by decide +kernel, by decide +kernel, zw_1331, zw_14⟩, zw_1329, zw_1330, by decide +kernel, by decide +kernel⟩
theorem zq_212 : zBV 212 2 12 := ⟨⟨by decide +kernel, by decide +kernel, by decide +kernel, zw_1335, zw_14⟩, zw_1333, zw_1334, by decide +kernel, by decide +kernel⟩
theorem zq_214 : zBV 214 1 12 := ⟨⟨by decide +kernel, by decide +kernel, by decide +kernel, zw_1343, zw_14⟩, zw_1341, zw_1342, by decide +kernel, by decide +kernel⟩
theorem zq_215 : zBV 215 1 12 := ⟨⟨by decide +kernel, by decide +kernel, by decide +kernel, zw_1347, zw_14⟩, zw_1345, zw_1346, by decide +kernel, by decide +kernel⟩
theorem zq_225 : zBV 225 1 12 := ⟨⟨by decide +kernel, by decide +kernel, by decide +kernel, zw_1388, zw_14⟩, zw_1386, zw_1387, by decide +kernel, by decide +kernel⟩
theorem zq_230 : zBV 230 1 12 := ⟨⟨by decide +kernel, by decide +kernel, by decide +kernel, zw_1406, zw_14⟩, zw_1404, zw_1405, by decide +kernel, by decide +kernel⟩
theorem zq_243 : zBV 243 1 12 := ⟨⟨by decide +kernel, by decide +kernel, by decide +kernel, zw_1455, zw_14⟩, zw_1453, zw_1454, by decide +kernel, by decide +kernel⟩
theorem zq_245 : zBV 245 0 12 := ⟨⟨by decide +kernel, by decide +kernel, by decide +kernel, zw_1463, zw_14⟩, zw_1461, zw_1462, by decide +kernel, by decide +kernel⟩
theorem zq_249 : zBV 249 1 12 := ⟨⟨by decide +kernel, by decide +kernel, by decide +kernel, zw_1479, zw_14⟩, zw_1477, zw_1478, by decide +kernel, by decide +kernel⟩
theorem zq_250 : zBV 250 0 12 := ⟨⟨by decide +kernel, by decide +kernel, by decide +kernel, zw_1484, zw_14⟩, zw_1482, zw_1483, by decide +kernel, by decide +kernel⟩
theorem zq_251 : zBV 251 2 12 := ⟨⟨by decide +kernel, by decide +kernel, by decide +kernel, zw_1488, zw_14⟩, zw_1486, zw_1487, by decide +kernel, by decide +kernel⟩
theorem zq_259 : zBV 259 0 12 := ⟨⟨by decide +kernel, by decide +kernel, by decide +kernel, zw_1520, zw_14⟩, zw_1518, zw_1519, by decide +kernel, by decide +kernel⟩
theorem zq_261 : zBV 261 1 12 := ⟨⟨by decide +kernel, by decide +kernel, by decide +kernel, zw_1528, zw_14⟩, zw_1526, zw_1527, by decide +kernel, by decide +kernel⟩
theorem zq_263 : zBV 263 1 12 := ⟨⟨by decide +kernel, by decide +kernel, by decide +kernel, zw_1536, zw_14⟩, zw_1534, zw_1535, by decide +kernel, by decide +kernel⟩
theorem zq_266 : zBV 266 2 12 := ⟨⟨by decide +kernel, by decide +kernel, by decide +kernel, zw_1548, zw_14⟩, zw_1546, zw_1547, by decide +kernel, by decide +kernel⟩
theorem zq_267 : zBV 267 1 12 := ⟨⟨by decide +kernel, by decide +kernel, by decide +kernel, zw_1554, zw_14⟩, zw_1552, zw_1553, by decide +kernel, by decide +kernel⟩
theorem zq_271 : zBV 271 2 12 := ⟨⟨by decide +kernel, by decide +kernel, by decide +kernel, zw_1571, zw_14⟩, zw_1569, zw_1570, by decide +kernel, by decide +kernel⟩
theorem zq_277 : zBV 277 4 12 := ⟨⟨by decide +kernel, by decide +kernel, by decide +kernel, zw_1595, zw_14⟩, zw_1593, zw_1594, by decide +kernel, by decide +kernel⟩
theorem zq_284 : zBV 284 4 12 := ⟨⟨by decide +kernel, by decide +kernel, by decide +kernel, zw_1621, zw_14⟩, zw_1619, zw_1620, by decide +kernel, by decide +kernel⟩
theorem zq_286 : zBV 286 1 12 := ⟨⟨by decide +kernel, by decide +kernel, by decide +kernel, zw_1629, zw_14⟩, zw_1627, zw_1628, by decide +kernel, by decide +kernel⟩
theorem zq_290 : zBV 290 1 12 := ⟨⟨by decide +kernel, by decide +kernel, by decide +kernel, zw_1645, zw_14⟩, zw_1643, zw_1644, by decide +kernel, by decide +kernel⟩
theorem zq_291 : zBV 291 1 12 := ⟨⟨by decide +kernel, by decide +kernel, by decide +kernel, zw_1649, zw_14⟩, zw_1647, zw_1648, by decide +kernel, by decide +kernel⟩
theorem zq_293 : zBV 293 0 12 := ⟨⟨by decide +kernel, by decide +kernel, by decide +kernel, zw_1657, zw_14⟩, zw_1655, zw_1656, by decide +kernel, by decide +kernel⟩
theorem zq_300 : zBV 300 2 12 := ⟨⟨by decide +kernel, by decide +kernel, by decide +kernel, zw_1685, zw_14⟩, zw_1683, zw_1684, by decide +kernel, by decide +kernel⟩
theorem zq_301 : zBV 301 1 12 := ⟨⟨by decide +kernel, by decide +kernel, by decide +kernel, zw_1689, zw_14⟩, zw_1687, zw_1688, by decide +kernel, by decide +kernel⟩
theorem zq_303 : zBV 303 0 12 := ⟨⟨by decide +kernel, by decide +kernel, by decide +kernel, zw_1697, zw_14⟩, zw_1695, zw_1696, by decide +kernel, by decide +kernel⟩
def zcl_law_0 : List (Nat × zmI) := [(0, zm_new 3 0 17), (3, zm_dup 4), (4, zm_call 7 0 1 false 0), (7, zm_astore 8 1), (8, zm_new 11 12 38), (11, zm_dup 12), (12, zm_call 15 193 1 false 12), (15, zm_astore 16 2), (16, zm_push 17 0), (17, zm_istore 18 3), (18, zm_iload 19 3), (19, zm_aload 20 0), (20, zm_alen 21), (21, zm_push 23 6), (23, zm_bin 24 (fun x y => w32 (x - y))), (24, zm_icgt 27 1107), (27, zm_aload 28 0), (28, zm_iload 29 3), (29, zm_ald 30 100), (30, zm_push 32 63)]
theorem zmc_law_0 (l : Launch) : zAll l "ChessWireLaw" code 4 false (some .boolean) zcl_law_0 :=
  zA_c (zOk_sn zn_new (zs_new (by decide) (by decide +kernel) (by decide +kernel) zw_24 zw_25 zw_1)) <|
  zA_c (zOk_fl zn_dup (zs_dup (by decide +kernel))) <|
  zA_c (zk_I zq_0 zw_26 rfl (by decide +kernel)) <|
  zA_c (zOk_fl zn_astore (zs_astore_n (q := 1) rfl (by decide +kernel))) <|
  zA_c (zOk_sn zn_new (zs_new (by decide) (by decide +kernel) (by decide +kernel) zw_1138 zw_1139 zw_14)) <|
  zA_c (zOk_fl zn_dup (zs_dup (by decide +kernel))) <|
  zA_c (zk_I zq_193 zw_1140 rfl (by decide +kernel)) <|
  zA_c (zOk_fl zn_astore (zs_astore_n (q := 2) rfl (by decide +kernel))) <|
  zA_c (zOk_fl zn_push (zs_iconst (n := 0) (by decide +kernel) rfl)) <|
  zA_c (zOk_fl zn_istore (zs_istore_n (q := 3) rfl (by decide +kernel))) <|
  zA_c (zOk_fl zn_iload (zs_iload_n (q := 3) rfl (by decide +kernel))) <|
  zA_c (zOk_fl zn_aload (zs_aload_n (q := 0) rfl (by decide +kernel))) <|
  zA_c (zOk_fl zn_alen (zs_alen (by decide +kernel))) <|
  zA_c (zOk_fl zn_push (zs_bipush (n := 6) (by decide +kernel) rfl)) <|
  zA_c (zOk_fl zn_bin (zs_isub (by decide +kernel))) <|
  zA_c (zOk_fl zn_icgt (zs_icgt (off := 1083) (by decide +kernel) (by decide))) <|
  zA_c (zOk_fl zn_aload (zs_aload_n (q := 0) rfl (by decide +kernel))) <|
  zA_c (zOk_fl zn_iload (zs_iload_n (q := 3) rfl (by decide +kernel))) <|
  zA_c (zOk_fl zn_ald (zs_iald (by decide +kernel))) <|
  zA_c (zOk_fl zn_push (zs_bipush (n := 63) (by decide +kernel) rfl)) <|
  zA_n
def zcl_law_1 : List (Nat × zmI) := [(32, zm_bin 33 z_and), (33, zm_tsw 1101 0 32 [180, 213, 236, 259, 282, 295, 318, 341, 354, 377, 400, 413, 446, 459, 482, 505, 538, 561, 594, 648, 701, 724, 747, 770, 783, 816, 859, 882, 935, 978, 1041, 1064, 1087])]
theorem zmc_law_1 (l : Launch) : zAll l "ChessWireLaw" code 4 false (some .boolean) zcl_law_1 :=
  zA_c (zOk_fl zn_bin (zs_iand (by decide +kernel))) <|
  zA_c (zOk_fl zn_tsw (zs_tsw (d0 := 1068) (offs := #[147, 180, 203, 226, 249, 262, 285, 308, 321, 344, 367, 380, 413, 426, 449, 472, 505, 528, 561, 615, 668, 691, 714, 737, 750, 783, 826, 849, 902, 945, 1008, 1031, 1054]) (len := 147) (by decide +kernel) (by decide) (by decide) (by decide))) <|
  zA_n
def zcl_law_2 : List (Nat × zmI) := []
theorem zmc_law_2 (l : Launch) : zAll l "ChessWireLaw" code 4 false (some .boolean) zcl_law_2 :=
  zA_n
def zcl_law_3 : List (Nat × zmI) := []
theorem zmc_law_3 (l : Launch) : zAll l "ChessWireLaw" code 4 false (some .boolean) zcl_law_3 :=
  zA_n
def zcl_law_4 : List (Nat × zmI) := []
theorem zmc_law_4 (l : Launch) : zAll l "ChessWireLaw" code 4 false (some .boolean) zcl_law_4 :=
  zA_n
def zcl_law_5 : List (Nat × zmI) := [(180, zm_aload 181 1), (181, zm_aload 182 0), (182, zm_iload 183 3), (183, zm_push 184 1), (184, zm_bin 185 (fun x y => w32 (x + y))), (185, zm_ald 186 100), (186, zm_aload 187 0), (187, zm_iload 188 3), (188, zm_push 189 2), (189, zm_bin 190 (fun x y => w32 (x + y))), (190, zm_ald 191 100), (191, zm_call 194 14 3 true 0)]
theorem zmc_law_5 (l : Launch) : zAll l "ChessWireLaw" code 4 false (some .boolean) zcl_law_5 :=
  zA_c (zOk_fl zn_aload (zs_aload_n (q := 1) rfl (by decide +kernel))) <|
  zA_c (zOk_fl zn_aload (zs_aload_n (q := 0) rfl (by decide +kernel))) <|
  zA_c (zOk_fl zn_iload (zs_iload_n (q := 3) rfl (by decide +kernel))) <|
  zA_c (zOk_fl zn_push (zs_iconst (n := 1) (by decide +kernel) rfl)) <|
  zA_c (zOk_fl zn_bin (zs_iadd (by decide +kernel))) <|
  zA_c (zOk_fl zn_ald (zs_iald (by decide +kernel))) <|
  zA_c (zOk_fl zn_aload (zs_aload_n (q := 0) rfl (by decide +kernel))) <|
  zA_c (zOk_fl zn_iload (zs_iload_n (q := 3) rfl (by decide +kernel))) <|
  zA_c (zOk_fl zn_push (zs_iconst (n := 2) (by decide +kernel) rfl)) <|
  zA_c (zOk_fl zn_bin (zs_iadd (by decide +kernel))) <|
  zA_c (zOk_fl zn_ald (zs_iald (by decide +kernel))) <|
  zA_c (zk_V zq_14 zw_355 rfl (by decide +kernel)) <|
  zA_n
def zcl_law_6 : List (Nat × zmI) := [(194, zm_aload 195 2), (195, zm_aload 196 0), (196, zm_iload 197 3), (197, zm_push 198 1), (198, zm_bin 199 (fun x y => w32 (x + y))), (199, zm_ald 200 100), (200, zm_aload 201 0), (201, zm_iload 202 3), (202, zm_push 203 2), (203, zm_bin 204 (fun x y => w32 (x + y))), (204, zm_ald 205 100), (205, zm_call 208 212 3 true 12), (208, zm_iceq 211 1101), (211, zm_push 212 0), (212, zm_zret), (213, zm_aload 214 1), (214, zm_aload 215 0), (215, zm_iload 216 3), (216, zm_push 217 1), (217, zm_bin 218 (fun x y => w32 (x + y))), (218, zm_ald 219 100), (219, zm_call 222 53 2 true 0), (222, zm_aload 223 2), (223, zm_aload 224 0)]
theorem zmc_law_6 (l : Launch) : zAll l "ChessWireLaw" code 4 false (some .boolean) zcl_law_6 :=
  zA_c (zOk_fl zn_aload (zs_aload_n (q := 2) rfl (by decide +kernel))) <|
  zA_c (zOk_fl zn_aload (zs_aload_n (q := 0) rfl (by decide +kernel))) <|
  zA_c (zOk_fl zn_iload (zs_iload_n (q := 3) rfl (by decide +kernel))) <|
  zA_c (zOk_fl zn_push (zs_iconst (n := 1) (by decide +kernel) rfl)) <|
  zA_c (zOk_fl zn_bin (zs_iadd (by decide +kernel))) <|
  zA_c (zOk_fl zn_ald (zs_iald (by decide +kernel))) <|
  zA_c (zOk_fl zn_aload (zs_aload_n (q := 0) rfl (by decide +kernel))) <|
  zA_c (zOk_fl zn_iload (zs_iload_n (q := 3) rfl (by decide +kernel))) <|
  zA_c (zOk_fl zn_push (zs_iconst (n := 2) (by decide +kernel) rfl)) <|
  zA_c (zOk_fl zn_bin (zs_iadd (by decide +kernel))) <|
  zA_c (zOk_fl zn_ald (zs_iald (by decide +kernel))) <|
  zA_c (zk_V zq_212 zw_1332 rfl (by decide +kernel)) <|
  zA_c (zOk_fl zn_iceq (zs_iceq (off := 893) (by decide +kernel) (by decide))) <|
  zA_c (zOk_fl zn_push (zs_iconst (n := 0) (by decide +kernel) rfl)) <|
  zA_c (zs_zret (by decide +kernel) rfl) <|
  zA_c (zOk_fl zn_aload (zs_aload_n (q := 1) rfl (by decide +kernel))) <|
  zA_c (zOk_fl zn_aload (zs_aload_n (q := 0) rfl (by decide +kernel))) <|
  zA_c (zOk_fl zn_iload (zs_iload_n (q := 3) rfl (by decide +kernel))) <|
  zA_c (zOk_fl zn_push (zs_iconst (n := 1) (by decide +kernel) rfl)) <|
  zA_c (zOk_fl zn_bin (zs_iadd (by decide +kernel))) <|
  zA_c (zOk_fl zn_ald (zs_iald (by decide +kernel))) <|
  zA_c (zk_V zq_53 zw_513 rfl (by decide +kernel)) <|
  zA_c (zOk_fl zn_aload (zs_aload_n (q := 2) rfl (by decide +kernel))) <|
  zA_c (zOk_fl zn_aload (zs_aload_n (q := 0) rfl (by decide +kernel))) <|
  zA_n
def zcl_law_7 : List (Nat × zmI) := [(224, zm_iload 225 3), (225, zm_push 226 1), (226, zm_bin 227 (fun x y => w32 (x + y))), (227, zm_ald 228 100), (228, zm_call 231 214 2 true 12), (231, zm_iceq 234 1101), (234, zm_push 235 0), (235, zm_zret), (236, zm_aload 237 1), (237, zm_aload 238 0), (238, zm_iload 239 3), (239, zm_push 240 1), (240, zm_bin 241 (fun x y => w32 (x + y))), (241, zm_ald 242 100), (242, zm_call 245 55 2 true 0), (245, zm_aload 246 2), (246, zm_aload 247 0), (247, zm_iload 248 3), (248, zm_push 249 1), (249, zm_bin 250 (fun x y => w32 (x + y))), (250, zm_ald 251 100), (251, zm_call 254 215 2 true 12), (254, zm_iceq 257 1101)]
theorem zmc_law_7 (l : Launch) : zAll l "ChessWireLaw" code 4 false (some .boolean) zcl_law_7 :=
  zA_c (zOk_fl zn_iload (zs_iload_n (q := 3) rfl (by decide +kernel))) <|
  zA_c (zOk_fl zn_push (zs_iconst (n := 1) (by decide +kernel) rfl)) <|
  zA_c (zOk_fl zn_bin (zs_iadd (by decide +kernel))) <|
  zA_c (zOk_fl zn_ald (zs_iald (by decide +kernel))) <|
  zA_c (zk_V zq_214 zw_1340 rfl (by decide +kernel)) <|
  zA_c (zOk_fl zn_iceq (zs_iceq (off := 870) (by decide +kernel) (by decide))) <|
  zA_c (zOk_fl zn_push (zs_iconst (n := 0) (by decide +kernel) rfl)) <|
  zA_c (zs_zret (by decide +kernel) rfl) <|
  zA_c (zOk_fl zn_aload (zs_aload_n (q := 1) rfl (by decide +kernel))) <|
  zA_c (zOk_fl zn_aload (zs_aload_n (q := 0) rfl (by decide +kernel))) <|
  zA_c (zOk_fl zn_iload (zs_iload_n (q := 3) rfl (by decide +kernel))) <|
  zA_c (zOk_fl zn_push (zs_iconst (n := 1) (by decide +kernel) rfl)) <|
  zA_c (zOk_fl zn_bin (zs_iadd (by decide +kernel))) <|
  zA_c (zOk_fl zn_ald (zs_iald (by decide +kernel))) <|
  zA_c (zk_V zq_55 zw_521 rfl (by decide +kernel)) <|
  zA_c (zOk_fl zn_aload (zs_aload_n (q := 2) rfl (by decide +kernel))) <|
  zA_c (zOk_fl zn_aload (zs_aload_n (q := 0) rfl (by decide +kernel))) <|
  zA_c (zOk_fl zn_iload (zs_iload_n (q := 3) rfl (by decide +kernel))) <|
  zA_c (zOk_fl zn_push (zs_iconst (n := 1) (by decide +kernel) rfl)) <|
  zA_c (zOk_fl zn_bin (zs_iadd (by decide +kernel))) <|
  zA_c (zOk_fl zn_ald (zs_iald (by decide +kernel))) <|
  zA_c (zk_V zq_215 zw_1344 rfl (by decide +kernel)) <|
  zA_c (zOk_fl zn_iceq (zs_iceq (off := 847) (by decide +kernel) (by decide))) <|
  zA_n
def zcl_law_8 : List (Nat × zmI) := [(257, zm_push 258 0), (258, zm_zret), (259, zm_aload 260 1), (260, zm_aload 261 0), (261, zm_iload 262 3), (262, zm_push 263 1), (263, zm_bin 264 (fun x y => w32 (x + y))), (264, zm_ald 265 100), (265, zm_call 268 62 2 true 0), (268, zm_aload 269 2), (269, zm_aload 270 0), (270, zm_iload 271 3), (271, zm_push 272 1), (272, zm_bin 273 (fun x y => w32 (x + y))), (273, zm_ald 274 100), (274, zm_call 277 225 2 true 12), (277, zm_iceq 280 1101), (280, zm_push 281 0), (281, zm_zret), (282, zm_aload 283 1), (283, zm_call 286 71 1 true 0), (286, zm_aload 287 2), (287, zm_call 290 229 1 true 12)]
theorem zmc_law_8 (l : Launch) : zAll l "ChessWireLaw" code 4 false (some .boolean) zcl_law_8 :=
  zA_c (zOk_fl zn_push (zs_iconst (n := 0) (by decide +kernel) rfl)) <|
  zA_c (zs_zret (by decide +kernel) rfl) <|
  zA_c (zOk_fl zn_aload (zs_aload_n (q := 1) rfl (by decide +kernel))) <|
  zA_c (zOk_fl zn_aload (zs_aload_n (q := 0) rfl (by decide +kernel))) <|
  zA_c (zOk_fl zn_iload (zs_iload_n (q := 3) rfl (by decide +kernel))) <|
  zA_c (zOk_fl zn_push (zs_iconst (n := 1) (by decide +kernel) rfl)) <|
  zA_c (zOk_fl zn_bin (zs_iadd (by decide +kernel))) <|
  zA_c (zOk_fl zn_ald (zs_iald (by decide +kernel))) <|
  zA_c (zk_V zq_62 zw_550 rfl (by decide +kernel)) <|
  zA_c (zOk_fl zn_aload (zs_aload_n (q := 2) rfl (by decide +kernel))) <|
  zA_c (zOk_fl zn_aload (zs_aload_n (q := 0) rfl (by decide +kernel))) <|
  zA_c (zOk_fl zn_iload (zs_iload_n (q := 3) rfl (by decide +kernel))) <|
  zA_c (zOk_fl zn_push (zs_iconst (n := 1) (by decide +kernel) rfl)) <|
  zA_c (zOk_fl zn_bin (zs_iadd (by decide +kernel))) <|
  zA_c (zOk_fl zn_ald (zs_iald (by decide +kernel))) <|
  zA_c (zk_V zq_225 zw_1385 rfl (by decide +kernel)) <|
  zA_c (zOk_fl zn_iceq (zs_iceq (off := 824) (by decide +kernel) (by decide))) <|
  zA_c (zOk_fl zn_push (zs_iconst (n := 0) (by decide +kernel) rfl)) <|
  zA_c (zs_zret (by decide +kernel) rfl) <|
  zA_c (zOk_fl zn_aload (zs_aload_n (q := 1) rfl (by decide +kernel))) <|
  zA_c (zk_V zq_71 zw_581 rfl (by decide +kernel)) <|
  zA_c (zOk_fl zn_aload (zs_aload_n (q := 2) rfl (by decide +kernel))) <|
  zA_c (zk_V zq_229 zw_1399 rfl (by decide +kernel)) <|
  zA_n
def zcl_law_9 : List (Nat × zmI) := [(290, zm_iceq 293 1101), (293, zm_push 294 0), (294, zm_zret), (295, zm_aload 296 1), (296, zm_aload 297 0), (297, zm_iload 298 3), (298, zm_push 299 1), (299, zm_bin 300 (fun x y => w32 (x + y))), (300, zm_ald 301 100), (301, zm_call 304 73 2 true 0), (304, zm_aload 305 2), (305, zm_aload 306 0), (306, zm_iload 307 3), (307, zm_push 308 1), (308, zm_bin 309 (fun x y => w32 (x + y))), (309, zm_ald 310 100), (310, zm_call 313 230 2 true 12), (313, zm_iceq 316 1101), (316, zm_push 317 0), (317, zm_zret), (318, zm_aload 319 1), (319, zm_aload 320 0)]
theorem zmc_law_9 (l : Launch) : zAll l "ChessWireLaw" code 4 false (some .boolean) zcl_law_9 :=
  zA_c (zOk_fl zn_iceq (zs_iceq (off := 811) (by decide +kernel) (by decide))) <|
  zA_c (zOk_fl zn_push (zs_iconst (n := 0) (by decide +kernel) rfl)) <|
  zA_c (zs_zret (by decide +kernel) rfl) <|
  zA_c (zOk_fl zn_aload (zs_aload_n (q := 1) rfl (by decide +kernel))) <|
  zA_c (zOk_fl zn_aload (zs_aload_n (q := 0) rfl (by decide +kernel))) <|
  zA_c (zOk_fl zn_iload (zs_iload_n (q := 3) rfl (by decide +kernel))) <|
  zA_c (zOk_fl zn_push (zs_iconst (n := 1) (by decide +kernel) rfl)) <|
  zA_c (zOk_fl zn_bin (zs_iadd (by decide +kernel))) <|
  zA_c (zOk_fl zn_ald (zs_iald (by decide +kernel))) <|
  zA_c (zk_V zq_73 zw_589 rfl (by decide +kernel)) <|
  zA_c (zOk_fl zn_aload (zs_aload_n (q := 2) rfl (by decide +kernel))) <|
  zA_c (zOk_fl zn_aload (zs_aload_n (q := 0) rfl (by decide +kernel))) <|
  zA_c (zOk_fl zn_iload (zs_iload_n (q := 3) rfl (by decide +kernel))) <|
  zA_c (zOk_fl zn_push (zs_iconst (n := 1) (by decide +kernel) rfl)) <|
  zA_c (zOk_fl zn_bin (zs_iadd (by decide +kernel))) <|
  zA_c (zOk_fl zn_ald (zs_iald (by decide +kernel))) <|
  zA_c (zk_V zq_230 zw_1403 rfl (by decide +kernel)) <|
  zA_c (zOk_fl zn_iceq (zs_iceq (off := 788) (by decide +kernel) (by decide))) <|
  zA_c (zOk_fl zn_push (zs_iconst (n := 0) (by decide +kernel) rfl)) <|
  zA_c (zs_zret (by decide +kernel) rfl) <|
  zA_c (zOk_fl zn_aload (zs_aload_n (q := 1) rfl (by decide +kernel))) <|
  zA_c (zOk_fl zn_aload (zs_aload_n (q := 0) rfl (by decide +kernel))) <|
  zA_n
def zcl_law_10 : List (Nat × zmI) := [(320, zm_iload 321 3), (321, zm_push 322 1), (322, zm_bin 323 (fun x y => w32 (x + y))), (323, zm_ald 324 100), (324, zm_call 327 100 2 true 0), (327, zm_aload 328 2), (328, zm_aload 329 0), (329, zm_iload 330 3), (330, zm_push 331 1), (331, zm_bin 332 (fun x y => w32 (x + y))), (332, zm_ald 333 100), (333, zm_call 336 243 2 true 12), (336, zm_iceq 339 1101), (339, zm_push 340 0), (340, zm_zret), (341, zm_aload 342 1), (342, zm_call 345 104 1 true 0), (345, zm_aload 346 2), (346, zm_call 349 245 1 true 12), (349, zm_iceq 352 1101)]
theorem zmc_law_10 (l : Launch) : zAll l "ChessWireLaw" code 4 false (some .boolean) zcl_law_10 :=
  zA_c (zOk_fl zn_iload (zs_iload_n (q := 3) rfl (by decide +kernel))) <|
  zA_c (zOk_fl zn_push (zs_iconst (n := 1) (by decide +kernel) rfl)) <|
  zA_c (zOk_fl zn_bin (zs_iadd (by decide +kernel))) <|
  zA_c (zOk_fl zn_ald (zs_iald (by decide +kernel))) <|
  zA_c (zk_V zq_100 zw_710 rfl (by decide +kernel)) <|
  zA_c (zOk_fl zn_aload (zs_aload_n (q := 2) rfl (by decide +kernel))) <|
  zA_c (zOk_fl zn_aload (zs_aload_n (q := 0) rfl (by decide +kernel))) <|
  zA_c (zOk_fl zn_iload (zs_iload_n (q := 3) rfl (by decide +kernel))) <|
  zA_c (zOk_fl zn_push (zs_iconst (n := 1) (by decide +kernel) rfl)) <|
  zA_c (zOk_fl zn_bin (zs_iadd (by decide +kernel))) <|
  zA_c (zOk_fl zn_ald (zs_iald (by decide +kernel))) <|
  zA_c (zk_V zq_243 zw_1452 rfl (by decide +kernel)) <|
  zA_c (zOk_fl zn_iceq (zs_iceq (off := 765) (by decide +kernel) (by decide))) <|
  zA_c (zOk_fl zn_push (zs_iconst (n := 0) (by decide +kernel) rfl)) <|
  zA_c (zs_zret (by decide +kernel) rfl) <|
  zA_c (zOk_fl zn_aload (zs_aload_n (q := 1) rfl (by decide +kernel))) <|
  zA_c (zk_V zq_104 zw_725 rfl (by decide +kernel)) <|
  zA_c (zOk_fl zn_aload (zs_aload_n (q := 2) rfl (by decide +kernel))) <|
  zA_c (zk_V zq_245 zw_1460 rfl (by decide +kernel)) <|
  zA_c (zOk_fl zn_iceq (zs_iceq (off := 752) (by decide +kernel) (by decide))) <|
  zA_n
def zcl_law_11 : List (Nat × zmI) := [(352, zm_push 353 0), (353, zm_zret), (354, zm_aload 355 1), (355, zm_aload 356 0), (356, zm_iload 357 3), (357, zm_push 358 1), (358, zm_bin 359 (fun x y => w32 (x + y))), (359, zm_ald 360 100), (360, zm_call 363 106 2 true 0), (363, zm_aload 364 2), (364, zm_aload 365 0), (365, zm_iload 366 3), (366, zm_push 367 1), (367, zm_bin 368 (fun x y => w32 (x + y))), (368, zm_ald 369 100), (369, zm_call 372 247 2 true 12), (372, zm_iceq 375 1101), (375, zm_push 376 0), (376, zm_zret), (377, zm_aload 378 1), (378, zm_aload 379 0), (379, zm_iload 380 3), (380, zm_push 381 1), (381, zm_bin 382 (fun x y => w32 (x + y))), (382, zm_ald 383 100), (383, zm_call 386 109 2 true 0)]
theorem zmc_law_11 (l : Launch) : zAll l "ChessWireLaw" code 4 false (some .boolean) zcl_law_11 :=
  zA_c (zOk_fl zn_push (zs_iconst (n := 0) (by decide +kernel) rfl)) <|
  zA_c (zs_zret (by decide +kernel) rfl) <|
  zA_c (zOk_fl zn_aload (zs_aload_n (q := 1) rfl (by decide +kernel))) <|
  zA_c (zOk_fl zn_aload (zs_aload_n (q := 0) rfl (by decide +kernel))) <|
  zA_c (zOk_fl zn_iload (zs_iload_n (q := 3) rfl (by decide +kernel))) <|
  zA_c (zOk_fl zn_push (zs_iconst (n := 1) (by decide +kernel) rfl)) <|
  zA_c (zOk_fl zn_bin (zs_iadd (by decide +kernel))) <|
  zA_c (zOk_fl zn_ald (zs_iald (by decide +kernel))) <|
  zA_c (zk_V zq_106 zw_733 rfl (by decide +kernel)) <|
  zA_c (zOk_fl zn_aload (zs_aload_n (q := 2) rfl (by decide +kernel))) <|
  zA_c (zOk_fl zn_aload (zs_aload_n (q := 0) rfl (by decide +kernel))) <|
  zA_c (zOk_fl zn_iload (zs_iload_n (q := 3) rfl (by decide +kernel))) <|
  zA_c (zOk_fl zn_push (zs_iconst (n := 1) (by decide +kernel) rfl)) <|
  zA_c (zOk_fl zn_bin (zs_iadd (by decide +kernel))) <|
  zA_c (zOk_fl zn_ald (zs_iald (by decide +kernel))) <|
  zA_c (zk_V zq_247 zw_1468 rfl (by decide +kernel)) <|
  zA_c (zOk_fl zn_iceq (zs_iceq (off := 729) (by decide +kernel) (by decide))) <|
  zA_c (zOk_fl zn_push (zs_iconst (n := 0) (by decide +kernel) rfl)) <|
  zA_c (zs_zret (by decide +kernel) rfl) <|
  zA_c (zOk_fl zn_aload (zs_aload_n (q := 1) rfl (by decide +kernel))) <|
  zA_c (zOk_fl zn_aload (zs_aload_n (q := 0) rfl (by decide +kernel))) <|
  zA_c (zOk_fl zn_iload (zs_iload_n (q := 3) rfl (by decide +kernel))) <|
  zA_c (zOk_fl zn_push (zs_iconst (n := 1) (by decide +kernel) rfl)) <|
  zA_c (zOk_fl zn_bin (zs_iadd (by decide +kernel))) <|
  zA_c (zOk_fl zn_ald (zs_iald (by decide +kernel))) <|
  zA_c (zk_V zq_109 zw_746 rfl (by decide +kernel)) <|
  zA_n
def zcl_law_12 : List (Nat × zmI) := [(386, zm_aload 387 2), (387, zm_aload 388 0), (388, zm_iload 389 3), (389, zm_push 390 1), (390, zm_bin 391 (fun x y => w32 (x + y))), (391, zm_ald 392 100), (392, zm_call 395 249 2 true 12), (395, zm_iceq 398 1101), (398, zm_push 399 0), (399, zm_zret), (400, zm_aload 401 1), (401, zm_call 404 115 1 true 0), (404, zm_aload 405 2), (405, zm_call 408 250 1 true 12), (408, zm_iceq 411 1101), (411, zm_push 412 0), (412, zm_zret), (413, zm_aload 414 1), (414, zm_aload 415 0), (415, zm_iload 416 3)]
theorem zmc_law_12 (l : Launch) : zAll l "ChessWireLaw" code 4 false (some .boolean) zcl_law_12 :=
  zA_c (zOk_fl zn_aload (zs_aload_n (q := 2) rfl (by decide +kernel))) <|
  zA_c (zOk_fl zn_aload (zs_aload_n (q := 0) rfl (by decide +kernel))) <|
  zA_c (zOk_fl zn_iload (zs_iload_n (q := 3) rfl (by decide +kernel))) <|
  zA_c (zOk_fl zn_push (zs_iconst (n := 1) (by decide +kernel) rfl)) <|
  zA_c (zOk_fl zn_bin (zs_iadd (by decide +kernel))) <|
  zA_c (zOk_fl zn_ald (zs_iald (by decide +kernel))) <|
  zA_c (zk_V zq_249 zw_1476 rfl (by decide +kernel)) <|
  zA_c (zOk_fl zn_iceq (zs_iceq (off := 706) (by decide +kernel) (by decide))) <|
  zA_c (zOk_fl zn_push (zs_iconst (n := 0) (by decide +kernel) rfl)) <|
  zA_c (zs_zret (by decide +kernel) rfl) <|
  zA_c (zOk_fl zn_aload (zs_aload_n (q := 1) rfl (by decide +kernel))) <|
  zA_c (zk_V zq_115 zw_770 rfl (by decide +kernel)) <|
  zA_c (zOk_fl zn_aload (zs_aload_n (q := 2) rfl (by decide +kernel))) <|
  zA_c (zk_V zq_250 zw_1481 rfl (by decide +kernel)) <|
  zA_c (zOk_fl zn_iceq (zs_iceq (off := 693) (by decide +kernel) (by decide))) <|
  zA_c (zOk_fl zn_push (zs_iconst (n := 0) (by decide +kernel) rfl)) <|
  zA_c (zs_zret (by decide +kernel) rfl) <|
  zA_c (zOk_fl zn_aload (zs_aload_n (q := 1) rfl (by decide +kernel))) <|
  zA_c (zOk_fl zn_aload (zs_aload_n (q := 0) rfl (by decide +kernel))) <|
  zA_c (zOk_fl zn_iload (zs_iload_n (q := 3) rfl (by decide +kernel))) <|
  zA_n
def zcl_law_13 : List (Nat × zmI) := [(416, zm_push 417 1), (417, zm_bin 418 (fun x y => w32 (x + y))), (418, zm_ald 419 100), (419, zm_aload 420 0), (420, zm_iload 421 3), (421, zm_push 422 2), (422, zm_bin 423 (fun x y => w32 (x + y))), (423, zm_ald 424 100), (424, zm_call 427 116 3 true 0), (427, zm_aload 428 2), (428, zm_aload 429 0), (429, zm_iload 430 3), (430, zm_push 431 1), (431, zm_bin 432 (fun x y => w32 (x + y))), (432, zm_ald 433 100), (433, zm_aload 434 0), (434, zm_iload 435 3), (435, zm_push 436 2), (436, zm_bin 437 (fun x y => w32 (x + y))), (437, zm_ald 438 100), (438, zm_call 441 251 3 true 12), (441, zm_iceq 444 1101), (444, zm_push 445 0), (445, zm_zret), (446, zm_aload 447 1), (447, zm_call 450 121 1 true 0)]
theorem zmc_law_13 (l : Launch) : zAll l "ChessWireLaw" code 4 false (some .boolean) zcl_law_13 :=
  zA_c (zOk_fl zn_push (zs_iconst (n := 1) (by decide +kernel) rfl)) <|
  zA_c (zOk_fl zn_bin (zs_iadd (by decide +kernel))) <|
  zA_c (zOk_fl zn_ald (zs_iald (by decide +kernel))) <|
  zA_c (zOk_fl zn_aload (zs_aload_n (q := 0) rfl (by decide +kernel))) <|
  zA_c (zOk_fl zn_iload (zs_iload_n (q := 3) rfl (by decide +kernel))) <|
  zA_c (zOk_fl zn_push (zs_iconst (n := 2) (by decide +kernel) rfl)) <|
  zA_c (zOk_fl zn_bin (zs_iadd (by decide +kernel))) <|
  zA_c (zOk_fl zn_ald (zs_iald (by decide +kernel))) <|
  zA_c (zk_V zq_116 zw_774 rfl (by decide +kernel)) <|
  zA_c (zOk_fl zn_aload (zs_aload_n (q := 2) rfl (by decide +kernel))) <|
  zA_c (zOk_fl zn_aload (zs_aload_n (q := 0) rfl (by decide +kernel))) <|
  zA_c (zOk_fl zn_iload (zs_iload_n (q := 3) rfl (by decide +kernel))) <|
  zA_c (zOk_fl zn_push (zs_iconst (n := 1) (by decide +kernel) rfl)) <|
  zA_c (zOk_fl zn_bin (zs_iadd (by decide +kernel))) <|
  zA_c (zOk_fl zn_ald (zs_iald (by decide +kernel))) <|
  zA_c (zOk_fl zn_aload (zs_aload_n (q := 0) rfl (by decide +kernel))) <|
  zA_c (zOk_fl zn_iload (zs_iload_n (q := 3) rfl (by decide +kernel))) <|
  zA_c (zOk_fl zn_push (zs_iconst (n := 2) (by decide +kernel) rfl)) <|
  zA_c (zOk_fl zn_bin (zs_iadd (by decide +kernel))) <|
  zA_c (zOk_fl zn_ald (zs_iald (by decide +kernel))) <|
  zA_c (zk_V zq_251 zw_1485 rfl (by decide +kernel)) <|
  zA_c (zOk_fl zn_iceq (zs_iceq (off := 660) (by decide +kernel) (by decide))) <|
  zA_c (zOk_fl zn_push (zs_iconst (n := 0) (by decide +kernel) rfl)) <|
  zA_c (zs_zret (by decide +kernel) rfl) <|
  zA_c (zOk_fl zn_aload (zs_aload_n (q := 1) rfl (by decide +kernel))) <|
  zA_c (zk_V zq_121 zw_798 rfl (by decide +kernel)) <|
  zA_n
def zcl_law_14 : List (Nat × zmI) := [(450, zm_aload 451 2), (451, zm_call 454 259 1 true 12), (454, zm_iceq 457 1101), (457, zm_push 458 0), (458, zm_zret), (459, zm_aload 460 1), (460, zm_aload 461 0), (461, zm_iload 462 3), (462, zm_push 463 1), (463, zm_bin 464 (fun x y => w32 (x + y))), (464, zm_ald 465 100), (465, zm_call 468 122 2 true 0), (468, zm_aload 469 2), (469, zm_aload 470 0), (470, zm_iload 471 3), (471, zm_push 472 1), (472, zm_bin 473 (fun x y => w32 (x + y))), (473, zm_ald 474 100), (474, zm_call 477 261 2 true 12), (477, zm_iceq 480 1101)]
theorem zmc_law_14 (l : Launch) : zAll l "ChessWireLaw" code 4 false (some .boolean) zcl_law_14 :=
  zA_c (zOk_fl zn_aload (zs_aload_n (q := 2) rfl (by decide +kernel))) <|
  zA_c (zk_V zq_259 zw_1517 rfl (by decide +kernel)) <|
  zA_c (zOk_fl zn_iceq (zs_iceq (off := 647) (by decide +kernel) (by decide))) <|
  zA_c (zOk_fl zn_push (zs_iconst (n := 0) (by decide +kernel) rfl)) <|
  zA_c (zs_zret (by decide +kernel) rfl) <|
  zA_c (zOk_fl zn_aload (zs_aload_n (q := 1) rfl (by decide +kernel))) <|
  zA_c (zOk_fl zn_aload (zs_aload_n (q := 0) rfl (by decide +kernel))) <|
  zA_c (zOk_fl zn_iload (zs_iload_n (q := 3) rfl (by decide +kernel))) <|
  zA_c (zOk_fl zn_push (zs_iconst (n := 1) (by decide +kernel) rfl)) <|
  zA_c (zOk_fl zn_bin (zs_iadd (by decide +kernel))) <|
  zA_c (zOk_fl zn_ald (zs_iald (by decide +kernel))) <|
  zA_c (zk_V zq_122 zw_802 rfl (by decide +kernel)) <|
  zA_c (zOk_fl zn_aload (zs_aload_n (q := 2) rfl (by decide +kernel))) <|
  zA_c (zOk_fl zn_aload (zs_aload_n (q := 0) rfl (by decide +kernel))) <|
  zA_c (zOk_fl zn_iload (zs_iload_n (q := 3) rfl (by decide +kernel))) <|
  zA_c (zOk_fl zn_push (zs_iconst (n := 1) (by decide +kernel) rfl)) <|
  zA_c (zOk_fl zn_bin (zs_iadd (by decide +kernel))) <|
  zA_c (zOk_fl zn_ald (zs_iald (by decide +kernel))) <|
  zA_c (zk_V zq_261 zw_1525 rfl (by decide +kernel)) <|
  zA_c (zOk_fl zn_iceq (zs_iceq (off := 624) (by decide +kernel) (by decide))) <|
  zA_n
def zcl_law_15 : List (Nat × zmI) := [(480, zm_push 481 0), (481, zm_zret), (482, zm_aload 483 1), (483, zm_aload 484 0), (484, zm_iload 485 3), (485, zm_push 486 1), (486, zm_bin 487 (fun x y => w32 (x + y))), (487, zm_ald 488 100), (488, zm_call 491 125 2 true 0), (491, zm_aload 492 2), (492, zm_aload 493 0), (493, zm_iload 494 3), (494, zm_push 495 1), (495, zm_bin 496 (fun x y => w32 (x + y))), (496, zm_ald 497 100), (497, zm_call 500 263 2 true 12), (500, zm_iceq 503 1101), (503, zm_push 504 0), (504, zm_zret), (505, zm_aload 506 1), (506, zm_aload 507 0), (507, zm_iload 508 3), (508, zm_push 509 1), (509, zm_bin 510 (fun x y => w32 (x + y))), (510, zm_ald 511 100), (511, zm_aload 512 0)]
theorem zmc_law_15 (l : Launch) : zAll l "ChessWireLaw" code 4 false (some .boolean) zcl_law_15 :=
  zA_c (zOk_fl zn_push (zs_iconst (n := 0) (by decide +kernel) rfl)) <|
  zA_c (zs_zret (by decide +kernel) rfl) <|
  zA_c (zOk_fl zn_aload (zs_aload_n (q := 1) rfl (by decide +kernel))) <|
  zA_c (zOk_fl zn_aload (zs_aload_n (q := 0) rfl (by decide +kernel))) <|
  zA_c (zOk_fl zn_iload (zs_iload_n (q := 3) rfl (by decide +kernel))) <|
  zA_c (zOk_fl zn_push (zs_iconst (n := 1) (by decide +kernel) rfl)) <|
  zA_c (zOk_fl zn_bin (zs_iadd (by decide +kernel))) <|
  zA_c (zOk_fl zn_ald (zs_iald (by decide +kernel))) <|
  zA_c (zk_V zq_125 zw_816 rfl (by decide +kernel)) <|
  zA_c (zOk_fl zn_aload (zs_aload_n (q := 2) rfl (by decide +kernel))) <|
  zA_c (zOk_fl zn_aload (zs_aload_n (q := 0) rfl (by decide +kernel))) <|
  zA_c (zOk_fl zn_iload (zs_iload_n (q := 3) rfl (by decide +kernel))) <|
  zA_c (zOk_fl zn_push (zs_iconst (n := 1) (by decide +kernel) rfl)) <|
  zA_c (zOk_fl zn_bin (zs_iadd (by decide +kernel))) <|
  zA_c (zOk_fl zn_ald (zs_iald (by decide +kernel))) <|
  zA_c (zk_V zq_263 zw_1533 rfl (by decide +kernel)) <|
  zA_c (zOk_fl zn_iceq (zs_iceq (off := 601) (by decide +kernel) (by decide))) <|
  zA_c (zOk_fl zn_push (zs_iconst (n := 0) (by decide +kernel) rfl)) <|
  zA_c (zs_zret (by decide +kernel) rfl) <|
  zA_c (zOk_fl zn_aload (zs_aload_n (q := 1) rfl (by decide +kernel))) <|
  zA_c (zOk_fl zn_aload (zs_aload_n (q := 0) rfl (by decide +kernel))) <|
  zA_c (zOk_fl zn_iload (zs_iload_n (q := 3) rfl (by decide +kernel))) <|
  zA_c (zOk_fl zn_push (zs_iconst (n := 1) (by decide +kernel) rfl)) <|
  zA_c (zOk_fl zn_bin (zs_iadd (by decide +kernel))) <|
  zA_c (zOk_fl zn_ald (zs_iald (by decide +kernel))) <|
  zA_c (zOk_fl zn_aload (zs_aload_n (q := 0) rfl (by decide +kernel))) <|
  zA_n
def zcl_law_16 : List (Nat × zmI) := [(512, zm_iload 513 3), (513, zm_push 514 2), (514, zm_bin 515 (fun x y => w32 (x + y))), (515, zm_ald 516 100), (516, zm_call 519 127 3 true 0), (519, zm_aload 520 2), (520, zm_aload 521 0), (521, zm_iload 522 3), (522, zm_push 523 1), (523, zm_bin 524 (fun x y => w32 (x + y))), (524, zm_ald 525 100), (525, zm_aload 526 0), (526, zm_iload 527 3), (527, zm_push 528 2), (528, zm_bin 529 (fun x y => w32 (x + y))), (529, zm_ald 530 100), (530, zm_call 533 266 3 true 12), (533, zm_iceq 536 1101), (536, zm_push 537 0), (537, zm_zret), (538, zm_aload 539 1), (539, zm_aload 540 0), (540, zm_iload 541 3), (541, zm_push 542 1), (542, zm_bin 543 (fun x y => w32 (x + y))), (543, zm_ald 544 100)]
theorem zmc_law_16 (l : Launch) : zAll l "ChessWireLaw" code 4 false (some .boolean) zcl_law_16 :=
  zA_c (zOk_fl zn_iload (zs_iload_n (q := 3) rfl (by decide +kernel))) <|
  zA_c (zOk_fl zn_push (zs_iconst (n := 2) (by decide +kernel) rfl)) <|
  zA_c (zOk_fl zn_bin (zs_iadd (by decide +kernel))) <|
  zA_c (zOk_fl zn_ald (zs_iald (by decide +kernel))) <|
  zA_c (zk_V zq_127 zw_825 rfl (by decide +kernel)) <|
  zA_c (zOk_fl zn_aload (zs_aload_n (q := 2) rfl (by decide +kernel))) <|
  zA_c (zOk_fl zn_aload (zs_aload_n (q := 0) rfl (by decide +kernel))) <|
  zA_c (zOk_fl zn_iload (zs_iload_n (q := 3) rfl (by decide +kernel))) <|
  zA_c (zOk_fl zn_push (zs_iconst (n := 1) (by decide +kernel) rfl)) <|
  zA_c (zOk_fl zn_bin (zs_iadd (by decide +kernel))) <|
  zA_c (zOk_fl zn_ald (zs_iald (by decide +kernel))) <|
  zA_c (zOk_fl zn_aload (zs_aload_n (q := 0) rfl (by decide +kernel))) <|
  zA_c (zOk_fl zn_iload (zs_iload_n (q := 3) rfl (by decide +kernel))) <|
  zA_c (zOk_fl zn_push (zs_iconst (n := 2) (by decide +kernel) rfl)) <|
  zA_c (zOk_fl zn_bin (zs_iadd (by decide +kernel))) <|
  zA_c (zOk_fl zn_ald (zs_iald (by decide +kernel))) <|
  zA_c (zk_V zq_266 zw_1545 rfl (by decide +kernel)) <|
  zA_c (zOk_fl zn_iceq (zs_iceq (off := 568) (by decide +kernel) (by decide))) <|
  zA_c (zOk_fl zn_push (zs_iconst (n := 0) (by decide +kernel) rfl)) <|
  zA_c (zs_zret (by decide +kernel) rfl) <|
  zA_c (zOk_fl zn_aload (zs_aload_n (q := 1) rfl (by decide +kernel))) <|
  zA_c (zOk_fl zn_aload (zs_aload_n (q := 0) rfl (by decide +kernel))) <|
  zA_c (zOk_fl zn_iload (zs_iload_n (q := 3) rfl (by decide +kernel))) <|
  zA_c (zOk_fl zn_push (zs_iconst (n := 1) (by decide +kernel) rfl)) <|
  zA_c (zOk_fl zn_bin (zs_iadd (by decide +kernel))) <|
  zA_c (zOk_fl zn_ald (zs_iald (by decide +kernel))) <|
  zA_n
def zcl_law_17 : List (Nat × zmI) := [(544, zm_call 547 128 2 true 0), (547, zm_aload 548 2), (548, zm_aload 549 0), (549, zm_iload 550 3), (550, zm_push 551 1), (551, zm_bin 552 (fun x y => w32 (x + y))), (552, zm_ald 553 100), (553, zm_call 556 267 2 true 12), (556, zm_iceq 559 1101), (559, zm_push 560 0), (560, zm_zret), (561, zm_aload 562 1), (562, zm_aload 563 0), (563, zm_iload 564 3), (564, zm_push 565 1), (565, zm_bin 566 (fun x y => w32 (x + y))), (566, zm_ald 567 100), (567, zm_aload 568 0), (568, zm_iload 569 3), (569, zm_push 570 2), (570, zm_bin 571 (fun x y => w32 (x + y))), (571, zm_ald 572 100), (572, zm_call 575 134 3 true 0), (575, zm_aload 576 2)]
theorem zmc_law_17 (l : Launch) : zAll l "ChessWireLaw" code 4 false (some .boolean) zcl_law_17 :=
  zA_c (zk_V zq_128 zw_829 rfl (by decide +kernel)) <|
  zA_c (zOk_fl zn_aload (zs_aload_n (q := 2) rfl (by decide +kernel))) <|
  zA_c (zOk_fl zn_aload (zs_aload_n (q := 0) rfl (by decide +kernel))) <|
  zA_c (zOk_fl zn_iload (zs_iload_n (q := 3) rfl (by decide +kernel))) <|
  zA_c (zOk_fl zn_push (zs_iconst (n := 1) (by decide +kernel) rfl)) <|
  zA_c (zOk_fl zn_bin (zs_iadd (by decide +kernel))) <|
  zA_c (zOk_fl zn_ald (zs_iald (by decide +kernel))) <|
  zA_c (zk_V zq_267 zw_1551 rfl (by decide +kernel)) <|
  zA_c (zOk_fl zn_iceq (zs_iceq (off := 545) (by decide +kernel) (by decide))) <|
  zA_c (zOk_fl zn_push (zs_iconst (n := 0) (by decide +kernel) rfl)) <|
  zA_c (zs_zret (by decide +kernel) rfl) <|
  zA_c (zOk_fl zn_aload (zs_aload_n (q := 1) rfl (by decide +kernel))) <|
  zA_c (zOk_fl zn_aload (zs_aload_n (q := 0) rfl (by decide +kernel))) <|
  zA_c (zOk_fl zn_iload (zs_iload_n (q := 3) rfl (by decide +kernel))) <|
  zA_c (zOk_fl zn_push (zs_iconst (n := 1) (by decide +kernel) rfl)) <|
  zA_c (zOk_fl zn_bin (zs_iadd (by decide +kernel))) <|
  zA_c (zOk_fl zn_ald (zs_iald (by decide +kernel))) <|
  zA_c (zOk_fl zn_aload (zs_aload_n (q := 0) rfl (by decide +kernel))) <|
  zA_c (zOk_fl zn_iload (zs_iload_n (q := 3) rfl (by decide +kernel))) <|
  zA_c (zOk_fl zn_push (zs_iconst (n := 2) (by decide +kernel) rfl)) <|
  zA_c (zOk_fl zn_bin (zs_iadd (by decide +kernel))) <|
  zA_c (zOk_fl zn_ald (zs_iald (by decide +kernel))) <|
  zA_c (zk_V zq_134 zw_854 rfl (by decide +kernel)) <|
  zA_c (zOk_fl zn_aload (zs_aload_n (q := 2) rfl (by decide +kernel))) <|
  zA_n
def zcl_law_18 : List (Nat × zmI) := [(576, zm_aload 577 0), (577, zm_iload 578 3), (578, zm_push 579 1), (579, zm_bin 580 (fun x y => w32 (x + y))), (580, zm_ald 581 100), (581, zm_aload 582 0), (582, zm_iload 583 3), (583, zm_push 584 2), (584, zm_bin 585 (fun x y => w32 (x + y))), (585, zm_ald 586 100), (586, zm_call 589 271 3 true 12), (589, zm_iceq 592 1101), (592, zm_push 593 0), (593, zm_zret), (594, zm_aload 595 1), (595, zm_aload 596 0), (596, zm_iload 597 3), (597, zm_push 598 1), (598, zm_bin 599 (fun x y => w32 (x + y))), (599, zm_ald 600 100), (600, zm_aload 601 0), (601, zm_iload 602 3), (602, zm_push 603 2), (603, zm_bin 604 (fun x y => w32 (x + y))), (604, zm_ald 605 100), (605, zm_aload 606 0), (606, zm_iload 607 3), (607, zm_push 608 3)]
theorem zmc_law_18 (l : Launch) : zAll l "ChessWireLaw" code 4 false (some .boolean) zcl_law_18 :=
  zA_c (zOk_fl zn_aload (zs_aload_n (q := 0) rfl (by decide +kernel))) <|
  zA_c (zOk_fl zn_iload (zs_iload_n (q := 3) rfl (by decide +kernel))) <|
  zA_c (zOk_fl zn_push (zs_iconst (n := 1) (by decide +kernel) rfl)) <|
  zA_c (zOk_fl zn_bin (zs_iadd (by decide +kernel))) <|
  zA_c (zOk_fl zn_ald (zs_iald (by decide +kernel))) <|
  zA_c (zOk_fl zn_aload (zs_aload_n (q := 0) rfl (by decide +kernel))) <|
  zA_c (zOk_fl zn_iload (zs_iload_n (q := 3) rfl (by decide +kernel))) <|
  zA_c (zOk_fl zn_push (zs_iconst (n := 2) (by decide +kernel) rfl)) <|
  zA_c (zOk_fl zn_bin (zs_iadd (by decide +kernel))) <|
  zA_c (zOk_fl zn_ald (zs_iald (by decide +kernel))) <|
  zA_c (zk_V zq_271 zw_1568 rfl (by decide +kernel)) <|
  zA_c (zOk_fl zn_iceq (zs_iceq (off := 512) (by decide +kernel) (by decide))) <|
  zA_c (zOk_fl zn_push (zs_iconst (n := 0) (by decide +kernel) rfl)) <|
  zA_c (zs_zret (by decide +kernel) rfl) <|
  zA_c (zOk_fl zn_aload (zs_aload_n (q := 1) rfl (by decide +kernel))) <|
  zA_c (zOk_fl zn_aload (zs_aload_n (q := 0) rfl (by decide +kernel))) <|
  zA_c (zOk_fl zn_iload (zs_iload_n (q := 3) rfl (by decide +kernel))) <|
  zA_c (zOk_fl zn_push (zs_iconst (n := 1) (by decide +kernel) rfl)) <|
  zA_c (zOk_fl zn_bin (zs_iadd (by decide +kernel))) <|
  zA_c (zOk_fl zn_ald (zs_iald (by decide +kernel))) <|
  zA_c (zOk_fl zn_aload (zs_aload_n (q := 0) rfl (by decide +kernel))) <|
  zA_c (zOk_fl zn_iload (zs_iload_n (q := 3) rfl (by decide +kernel))) <|
  zA_c (zOk_fl zn_push (zs_iconst (n := 2) (by decide +kernel) rfl)) <|
  zA_c (zOk_fl zn_bin (zs_iadd (by decide +kernel))) <|
  zA_c (zOk_fl zn_ald (zs_iald (by decide +kernel))) <|
  zA_c (zOk_fl zn_aload (zs_aload_n (q := 0) rfl (by decide +kernel))) <|
  zA_c (zOk_fl zn_iload (zs_iload_n (q := 3) rfl (by decide +kernel))) <|
  zA_c (zOk_fl zn_push (zs_iconst (n := 3) (by decide +kernel) rfl)) <|
  zA_n
def zcl_law_19 : List (Nat × zmI) := [(608, zm_bin 609 (fun x y => w32 (x + y))), (609, zm_ald 610 100), (610, zm_aload 611 0), (611, zm_iload 612 3), (612, zm_push 613 4), (613, zm_bin 614 (fun x y => w32 (x + y))), (614, zm_ald 615 100), (615, zm_call 618 141 5 true 0), (618, zm_aload 619 2), (619, zm_aload 620 0), (620, zm_iload 621 3), (621, zm_push 622 1), (622, zm_bin 623 (fun x y => w32 (x + y))), (623, zm_ald 624 100), (624, zm_aload 625 0), (625, zm_iload 626 3), (626, zm_push 627 2), (627, zm_bin 628 (fun x y => w32 (x + y))), (628, zm_ald 629 100), (629, zm_aload 630 0), (630, zm_iload 631 3), (631, zm_push 632 3), (632, zm_bin 633 (fun x y => w32 (x + y))), (633, zm_ald 634 100), (634, zm_aload 635 0), (635, zm_iload 636 3), (636, zm_push 637 4), (637, zm_bin 638 (fun x y => w32 (x + y))), (638, zm_ald 639 100), (639, zm_call 642 277 5 true 12)]
theorem zmc_law_19 (l : Launch) : zAll l "ChessWireLaw" code 4 false (some .boolean) zcl_law_19 :=
  zA_c (zOk_fl zn_bin (zs_iadd (by decide +kernel))) <|
  zA_c (zOk_fl zn_ald (zs_iald (by decide +kernel))) <|
  zA_c (zOk_fl zn_aload (zs_aload_n (q := 0) rfl (by decide +kernel))) <|
  zA_c (zOk_fl zn_iload (zs_iload_n (q := 3) rfl (by decide +kernel))) <|
  zA_c (zOk_fl zn_push (zs_iconst (n := 4) (by decide +kernel) rfl)) <|
  zA_c (zOk_fl zn_bin (zs_iadd (by decide +kernel))) <|
  zA_c (zOk_fl zn_ald (zs_iald (by decide +kernel))) <|
  zA_c (zk_V zq_141 zw_894 rfl (by decide +kernel)) <|
  zA_c (zOk_fl zn_aload (zs_aload_n (q := 2) rfl (by decide +kernel))) <|
  zA_c (zOk_fl zn_aload (zs_aload_n (q := 0) rfl (by decide +kernel))) <|
  zA_c (zOk_fl zn_iload (zs_iload_n (q := 3) rfl (by decide +kernel))) <|
  zA_c (zOk_fl zn_push (zs_iconst (n := 1) (by decide +kernel) rfl)) <|
  zA_c (zOk_fl zn_bin (zs_iadd (by decide +kernel))) <|
  zA_c (zOk_fl zn_ald (zs_iald (by decide +kernel))) <|
  zA_c (zOk_fl zn_aload (zs_aload_n (q := 0) rfl (by decide +kernel))) <|
  zA_c (zOk_fl zn_iload (zs_iload_n (q := 3) rfl (by decide +kernel))) <|
  zA_c (zOk_fl zn_push (zs_iconst (n := 2) (by decide +kernel) rfl)) <|
  zA_c (zOk_fl zn_bin (zs_iadd (by decide +kernel))) <|
  zA_c (zOk_fl zn_ald (zs_iald (by decide +kernel))) <|
  zA_c (zOk_fl zn_aload (zs_aload_n (q := 0) rfl (by decide +kernel))) <|
  zA_c (zOk_fl zn_iload (zs_iload_n (q := 3) rfl (by decide +kernel))) <|
  zA_c (zOk_fl zn_push (zs_iconst (n := 3) (by decide +kernel) rfl)) <|
  zA_c (zOk_fl zn_bin (zs_iadd (by decide +kernel))) <|
  zA_c (zOk_fl zn_ald (zs_iald (by decide +kernel))) <|
  zA_c (zOk_fl zn_aload (zs_aload_n (q := 0) rfl (by decide +kernel))) <|
  zA_c (zOk_fl zn_iload (zs_iload_n (q := 3) rfl (by decide +kernel))) <|
  zA_c (zOk_fl zn_push (zs_iconst (n := 4) (by decide +kernel) rfl)) <|
  zA_c (zOk_fl zn_bin (zs_iadd (by decide +kernel))) <|
  zA_c (zOk_fl zn_ald (zs_iald (by decide +kernel))) <|
  zA_c (zk_V zq_277 zw_1592 rfl (by decide +kernel)) <|
  zA_n
def zcl_law_20 : List (Nat × zmI) := [(642, zm_lcmp 643), (643, zm_ifeq 646 1101), (646, zm_push 647 0), (647, zm_zret), (648, zm_aload 649 1), (649, zm_aload 650 0), (650, zm_iload 651 3), (651, zm_push 652 1), (652, zm_bin 653 (fun x y => w32 (x + y))), (653, zm_ald 654 100), (654, zm_aload 655 0), (655, zm_iload 656 3), (656, zm_push 657 2), (657, zm_bin 658 (fun x y => w32 (x + y))), (658, zm_ald 659 100), (659, zm_aload 660 0), (660, zm_iload 661 3), (661, zm_push 662 3), (662, zm_bin 663 (fun x y => w32 (x + y))), (663, zm_ald 664 100), (664, zm_aload 665 0), (665, zm_iload 666 3), (666, zm_push 667 4), (667, zm_bin 668 (fun x y => w32 (x + y))), (668, zm_ald 669 100), (669, zm_call 672 149 5 true 0)]
theorem zmc_law_20 (l : Launch) : zAll l "ChessWireLaw" code 4 false (some .boolean) zcl_law_20 :=
  zA_c (zOk_fl zn_lcmp (zs_lcmp (by decide +kernel))) <|
  zA_c (zOk_fl zn_ifeq (zs_ifeq (off := 458) (by decide +kernel) (by decide))) <|
  zA_c (zOk_fl zn_push (zs_iconst (n := 0) (by decide +kernel) rfl)) <|
  zA_c (zs_zret (by decide +kernel) rfl) <|
  zA_c (zOk_fl zn_aload (zs_aload_n (q := 1) rfl (by decide +kernel))) <|
  zA_c (zOk_fl zn_aload (zs_aload_n (q := 0) rfl (by decide +kernel))) <|
  zA_c (zOk_fl zn_iload (zs_iload_n (q := 3) rfl (by decide +kernel))) <|
  zA_c (zOk_fl zn_push (zs_iconst (n := 1) (by decide +kernel) rfl)) <|
  zA_c (zOk_fl zn_bin (zs_iadd (by decide +kernel))) <|
  zA_c (zOk_fl zn_ald (zs_iald (by decide +kernel))) <|
  zA_c (zOk_fl zn_aload (zs_aload_n (q := 0) rfl (by decide +kernel))) <|
  zA_c (zOk_fl zn_iload (zs_iload_n (q := 3) rfl (by decide +kernel))) <|
  zA_c (zOk_fl zn_push (zs_iconst (n := 2) (by decide +kernel) rfl)) <|
  zA_c (zOk_fl zn_bin (zs_iadd (by decide +kernel))) <|
  zA_c (zOk_fl zn_ald (zs_iald (by decide +kernel))) <|
  zA_c (zOk_fl zn_aload (zs_aload_n (q := 0) rfl (by decide +kernel))) <|
  zA_c (zOk_fl zn_iload (zs_iload_n (q := 3) rfl (by decide +kernel))) <|
  zA_c (zOk_fl zn_push (zs_iconst (n := 3) (by decide +kernel) rfl)) <|
  zA_c (zOk_fl zn_bin (zs_iadd (by decide +kernel))) <|
  zA_c (zOk_fl zn_ald (zs_iald (by decide +kernel))) <|
  zA_c (zOk_fl zn_aload (zs_aload_n (q := 0) rfl (by decide +kernel))) <|
  zA_c (zOk_fl zn_iload (zs_iload_n (q := 3) rfl (by decide +kernel))) <|
  zA_c (zOk_fl zn_push (zs_iconst (n := 4) (by decide +kernel) rfl)) <|
  zA_c (zOk_fl zn_bin (zs_iadd (by decide +kernel))) <|
  zA_c (zOk_fl zn_ald (zs_iald (by decide +kernel))) <|
  zA_c (zk_V zq_149 zw_924 rfl (by decide +kernel)) <|
  zA_n
def zcl_law_21 : List (Nat × zmI) := [(672, zm_aload 673 2), (673, zm_aload 674 0), (674, zm_iload 675 3), (675, zm_push 676 1), (676, zm_bin 677 (fun x y => w32 (x + y))), (677, zm_ald 678 100), (678, zm_aload 679 0), (679, zm_iload 680 3), (680, zm_push 681 2), (681, zm_bin 682 (fun x y => w32 (x + y))), (682, zm_ald 683 100), (683, zm_aload 684 0), (684, zm_iload 685 3), (685, zm_push 686 3), (686, zm_bin 687 (fun x y => w32 (x + y))), (687, zm_ald 688 100), (688, zm_aload 689 0), (689, zm_iload 690 3), (690, zm_push 691 4), (691, zm_bin 692 (fun x y => w32 (x + y))), (692, zm_ald 693 100), (693, zm_call 696 284 5 true 12), (696, zm_iceq 699 1101), (699, zm_push 700 0), (700, zm_zret), (701, zm_aload 702 1), (702, zm_aload 703 0), (703, zm_iload 704 3)]
theorem zmc_law_21 (l : Launch) : zAll l "ChessWireLaw" code 4 false (some .boolean) zcl_law_21 :=
  zA_c (zOk_fl zn_aload (zs_aload_n (q := 2) rfl (by decide +kernel))) <|
  zA_c (zOk_fl zn_aload (zs_aload_n (q := 0) rfl (by decide +kernel))) <|
  zA_c (zOk_fl zn_iload (zs_iload_n (q := 3) rfl (by decide +kernel))) <|
  zA_c (zOk_fl zn_push (zs_iconst (n := 1) (by decide +kernel) rfl)) <|
  zA_c (zOk_fl zn_bin (zs_iadd (by decide +kernel))) <|
  zA_c (zOk_fl zn_ald (zs_iald (by decide +kernel))) <|
  zA_c (zOk_fl zn_aload (zs_aload_n (q := 0) rfl (by decide +kernel))) <|
  zA_c (zOk_fl zn_iload (zs_iload_n (q := 3) rfl (by decide +kernel))) <|
  zA_c (zOk_fl zn_push (zs_iconst (n := 2) (by decide +kernel) rfl)) <|
  zA_c (zOk_fl zn_bin (zs_iadd (by decide +kernel))) <|
  zA_c (zOk_fl zn_ald (zs_iald (by decide +kernel))) <|
  zA_c (zOk_fl zn_aload (zs_aload_n (q := 0) rfl (by decide +kernel))) <|
  zA_c (zOk_fl zn_iload (zs_iload_n (q := 3) rfl (by decide +kernel))) <|
  zA_c (zOk_fl zn_push (zs_iconst (n := 3) (by decide +kernel) rfl)) <|
  zA_c (zOk_fl zn_bin (zs_iadd (by decide +kernel))) <|
  zA_c (zOk_fl zn_ald (zs_iald (by decide +kernel))) <|
  zA_c (zOk_fl zn_aload (zs_aload_n (q := 0) rfl (by decide +kernel))) <|
  zA_c (zOk_fl zn_iload (zs_iload_n (q := 3) rfl (by decide +kernel))) <|
  zA_c (zOk_fl zn_push (zs_iconst (n := 4) (by decide +kernel) rfl)) <|
  zA_c (zOk_fl zn_bin (zs_iadd (by decide +kernel))) <|
  zA_c (zOk_fl zn_ald (zs_iald (by decide +kernel))) <|
  zA_c (zk_V zq_284 zw_1618 rfl (by decide +kernel)) <|
  zA_c (zOk_fl zn_iceq (zs_iceq (off := 405) (by decide +kernel) (by decide))) <|
  zA_c (zOk_fl zn_push (zs_iconst (n := 0) (by decide +kernel) rfl)) <|
  zA_c (zs_zret (by decide +kernel) rfl) <|
  zA_c (zOk_fl zn_aload (zs_aload_n (q := 1) rfl (by decide +kernel))) <|
  zA_c (zOk_fl zn_aload (zs_aload_n (q := 0) rfl (by decide +kernel))) <|
  zA_c (zOk_fl zn_iload (zs_iload_n (q := 3) rfl (by decide +kernel))) <|
  zA_n
def zcl_law_22 : List (Nat × zmI) := [(704, zm_push 705 1), (705, zm_bin 706 (fun x y => w32 (x + y))), (706, zm_ald 707 100), (707, zm_call 710 153 2 true 0), (710, zm_aload 711 2), (711, zm_aload 712 0), (712, zm_iload 713 3), (713, zm_push 714 1), (714, zm_bin 715 (fun x y => w32 (x + y))), (715, zm_ald 716 100), (716, zm_call 719 286 2 true 12), (719, zm_iceq 722 1101), (722, zm_push 723 0), (723, zm_zret), (724, zm_aload 725 1), (725, zm_aload 726 0), (726, zm_iload 727 3), (727, zm_push 728 1), (728, zm_bin 729 (fun x y => w32 (x + y))), (729, zm_ald 730 100), (730, zm_call 733 160 2 true 0), (733, zm_aload 734 2), (734, zm_aload 735 0), (735, zm_iload 736 3)]
theorem zmc_law_22 (l : Launch) : zAll l "ChessWireLaw" code 4 false (some .boolean) zcl_law_22 :=
  zA_c (zOk_fl zn_push (zs_iconst (n := 1) (by decide +kernel) rfl)) <|
  zA_c (zOk_fl zn_bin (zs_iadd (by decide +kernel))) <|
  zA_c (zOk_fl zn_ald (zs_iald (by decide +kernel))) <|
  zA_c (zk_V zq_153 zw_942 rfl (by decide +kernel)) <|
  zA_c (zOk_fl zn_aload (zs_aload_n (q := 2) rfl (by decide +kernel))) <|
  zA_c (zOk_fl zn_aload (zs_aload_n (q := 0) rfl (by decide +kernel))) <|
  zA_c (zOk_fl zn_iload (zs_iload_n (q := 3) rfl (by decide +kernel))) <|
  zA_c (zOk_fl zn_push (zs_iconst (n := 1) (by decide +kernel) rfl)) <|
  zA_c (zOk_fl zn_bin (zs_iadd (by decide +kernel))) <|
  zA_c (zOk_fl zn_ald (zs_iald (by decide +kernel))) <|
  zA_c (zk_V zq_286 zw_1626 rfl (by decide +kernel)) <|
  zA_c (zOk_fl zn_iceq (zs_iceq (off := 382) (by decide +kernel) (by decide))) <|
  zA_c (zOk_fl zn_push (zs_iconst (n := 0) (by decide +kernel) rfl)) <|
  zA_c (zs_zret (by decide +kernel) rfl) <|
  zA_c (zOk_fl zn_aload (zs_aload_n (q := 1) rfl (by decide +kernel))) <|
  zA_c (zOk_fl zn_aload (zs_aload_n (q := 0) rfl (by decide +kernel))) <|
  zA_c (zOk_fl zn_iload (zs_iload_n (q := 3) rfl (by decide +kernel))) <|
  zA_c (zOk_fl zn_push (zs_iconst (n := 1) (by decide +kernel) rfl)) <|
  zA_c (zOk_fl zn_bin (zs_iadd (by decide +kernel))) <|
  zA_c (zOk_fl zn_ald (zs_iald (by decide +kernel))) <|
  zA_c (zk_V zq_160 zw_978 rfl (by decide +kernel)) <|
  zA_c (zOk_fl zn_aload (zs_aload_n (q := 2) rfl (by decide +kernel))) <|
  zA_c (zOk_fl zn_aload (zs_aload_n (q := 0) rfl (by decide +kernel))) <|
  zA_c (zOk_fl zn_iload (zs_iload_n (q := 3) rfl (by decide +kernel))) <|
  zA_n
def zcl_law_23 : List (Nat × zmI) := [(736, zm_push 737 1), (737, zm_bin 738 (fun x y => w32 (x + y))), (738, zm_ald 739 100), (739, zm_call 742 290 2 true 12), (742, zm_iceq 745 1101), (745, zm_push 746 0), (746, zm_zret), (747, zm_aload 748 1), (748, zm_aload 749 0), (749, zm_iload 750 3), (750, zm_push 751 1), (751, zm_bin 752 (fun x y => w32 (x + y))), (752, zm_ald 753 100), (753, zm_call 756 162 2 true 0), (756, zm_aload 757 2), (757, zm_aload 758 0), (758, zm_iload 759 3), (759, zm_push 760 1), (760, zm_bin 761 (fun x y => w32 (x + y))), (761, zm_ald 762 100), (762, zm_call 765 291 2 true 12), (765, zm_iceq 768 1101)]
theorem zmc_law_23 (l : Launch) : zAll l "ChessWireLaw" code 4 false (some .boolean) zcl_law_23 :=
  zA_c (zOk_fl zn_push (zs_iconst (n := 1) (by decide +kernel) rfl)) <|
  zA_c (zOk_fl zn_bin (zs_iadd (by decide +kernel))) <|
  zA_c (zOk_fl zn_ald (zs_iald (by decide +kernel))) <|
  zA_c (zk_V zq_290 zw_1642 rfl (by decide +kernel)) <|
  zA_c (zOk_fl zn_iceq (zs_iceq (off := 359) (by decide +kernel) (by decide))) <|
  zA_c (zOk_fl zn_push (zs_iconst (n := 0) (by decide +kernel) rfl)) <|
  zA_c (zs_zret (by decide +kernel) rfl) <|
  zA_c (zOk_fl zn_aload (zs_aload_n (q := 1) rfl (by decide +kernel))) <|
  zA_c (zOk_fl zn_aload (zs_aload_n (q := 0) rfl (by decide +kernel))) <|
  zA_c (zOk_fl zn_iload (zs_iload_n (q := 3) rfl (by decide +kernel))) <|
  zA_c (zOk_fl zn_push (zs_iconst (n := 1) (by decide +kernel) rfl)) <|
  zA_c (zOk_fl zn_bin (zs_iadd (by decide +kernel))) <|
  zA_c (zOk_fl zn_ald (zs_iald (by decide +kernel))) <|
  zA_c (zk_V zq_162 zw_986 rfl (by decide +kernel)) <|
  zA_c (zOk_fl zn_aload (zs_aload_n (q := 2) rfl (by decide +kernel))) <|
  zA_c (zOk_fl zn_aload (zs_aload_n (q := 0) rfl (by decide +kernel))) <|
  zA_c (zOk_fl zn_iload (zs_iload_n (q := 3) rfl (by decide +kernel))) <|
  zA_c (zOk_fl zn_push (zs_iconst (n := 1) (by decide +kernel) rfl)) <|
  zA_c (zOk_fl zn_bin (zs_iadd (by decide +kernel))) <|
  zA_c (zOk_fl zn_ald (zs_iald (by decide +kernel))) <|
  zA_c (zk_V zq_291 zw_1646 rfl (by decide +kernel)) <|
  zA_c (zOk_fl zn_iceq (zs_iceq (off := 336) (by decide +kernel) (by decide))) <|
  zA_n
def zcl_law_24 : List (Nat × zmI) := [(768, zm_push 769 0), (769, zm_zret), (770, zm_aload 771 1), (771, zm_call 774 164 1 true 0), (774, zm_aload 775 2), (775, zm_call 778 293 1 true 12), (778, zm_iceq 781 1101), (781, zm_push 782 0), (782, zm_zret), (783, zm_aload 784 1), (784, zm_aload 785 0), (785, zm_iload 786 3), (786, zm_push 787 1), (787, zm_bin 788 (fun x y => w32 (x + y))), (788, zm_ald 789 100), (789, zm_aload 790 0), (790, zm_iload 791 3), (791, zm_push 792 2), (792, zm_bin 793 (fun x y => w32 (x + y))), (793, zm_ald 794 100), (794, zm_call 797 173 3 true 0), (797, zm_aload 798 2), (798, zm_aload 799 0), (799, zm_iload 800 3)]
theorem zmc_law_24 (l : Launch) : zAll l "ChessWireLaw" code 4 false (some .boolean) zcl_law_24 :=
  zA_c (zOk_fl zn_push (zs_iconst (n := 0) (by decide +kernel) rfl)) <|
  zA_c (zs_zret (by decide +kernel) rfl) <|
  zA_c (zOk_fl zn_aload (zs_aload_n (q := 1) rfl (by decide +kernel))) <|
  zA_c (zk_V zq_164 zw_994 rfl (by decide +kernel)) <|
  zA_c (zOk_fl zn_aload (zs_aload_n (q := 2) rfl (by decide +kernel))) <|
  zA_c (zk_V zq_293 zw_1654 rfl (by decide +kernel)) <|
  zA_c (zOk_fl zn_iceq (zs_iceq (off := 323) (by decide +kernel) (by decide))) <|
  zA_c (zOk_fl zn_push (zs_iconst (n := 0) (by decide +kernel) rfl)) <|
  zA_c (zs_zret (by decide +kernel) rfl) <|
  zA_c (zOk_fl zn_aload (zs_aload_n (q := 1) rfl (by decide +kernel))) <|
  zA_c (zOk_fl zn_aload (zs_aload_n (q := 0) rfl (by decide +kernel))) <|
  zA_c (zOk_fl zn_iload (zs_iload_n (q := 3) rfl (by decide +kernel))) <|
  zA_c (zOk_fl zn_push (zs_iconst (n := 1) (by decide +kernel) rfl)) <|
  zA_c (zOk_fl zn_bin (zs_iadd (by decide +kernel))) <|
  zA_c (zOk_fl zn_ald (zs_iald (by decide +kernel))) <|
  zA_c (zOk_fl zn_aload (zs_aload_n (q := 0) rfl (by decide +kernel))) <|
  zA_c (zOk_fl zn_iload (zs_iload_n (q := 3) rfl (by decide +kernel))) <|
  zA_c (zOk_fl zn_push (zs_iconst (n := 2) (by decide +kernel) rfl)) <|
  zA_c (zOk_fl zn_bin (zs_iadd (by decide +kernel))) <|
  zA_c (zOk_fl zn_ald (zs_iald (by decide +kernel))) <|
  zA_c (zk_V zq_173 zw_1035 rfl (by decide +kernel)) <|
  zA_c (zOk_fl zn_aload (zs_aload_n (q := 2) rfl (by decide +kernel))) <|
  zA_c (zOk_fl zn_aload (zs_aload_n (q := 0) rfl (by decide +kernel))) <|
  zA_c (zOk_fl zn_iload (zs_iload_n (q := 3) rfl (by decide +kernel))) <|
  zA_n
def zcl_law_25 : List (Nat × zmI) := [(800, zm_push 801 1), (801, zm_bin 802 (fun x y => w32 (x + y))), (802, zm_ald 803 100), (803, zm_aload 804 0), (804, zm_iload 805 3), (805, zm_push 806 2), (806, zm_bin 807 (fun x y => w32 (x + y))), (807, zm_ald 808 100), (808, zm_call 811 300 3 true 12), (811, zm_iceq 814 1101), (814, zm_push 815 0), (815, zm_zret), (816, zm_aload 817 1), (817, zm_aload 818 0), (818, zm_iload 819 3), (819, zm_push 820 1), (820, zm_bin 821 (fun x y => w32 (x + y))), (821, zm_ald 822 100), (822, zm_aload 823 0), (823, zm_iload 824 3), (824, zm_push 825 2), (825, zm_bin 826 (fun x y => w32 (x + y))), (826, zm_ald 827 100), (827, zm_aload 828 0), (828, zm_iload 829 3), (829, zm_push 830 3), (830, zm_bin 831 (fun x y => w32 (x + y))), (831, zm_ald 832 100)]
theorem zmc_law_25 (l : Launch) : zAll l "ChessWireLaw" code 4 false (some .boolean) zcl_law_25 :=
  zA_c (zOk_fl zn_push (zs_iconst (n := 1) (by decide +kernel) rfl)) <|
  zA_c (zOk_fl zn_bin (zs_iadd (by decide +kernel))) <|
  zA_c (zOk_fl zn_ald (zs_iald (by decide +kernel))) <|
  zA_c (zOk_fl zn_aload (zs_aload_n (q := 0) rfl (by decide +kernel))) <|
  zA_c (zOk_fl zn_iload (zs_iload_n (q := 3) rfl (by decide +kernel))) <|
  zA_c (zOk_fl zn_push (zs_iconst (n := 2) (by decide +kernel) rfl)) <|
  zA_c (zOk_fl zn_bin (zs_iadd (by decide +kernel))) <|
  zA_c (zOk_fl zn_ald (zs_iald (by decide +kernel))) <|
  zA_c (zk_V zq_300 zw_1682 rfl (by decide +kernel)) <|
  zA_c (zOk_fl zn_iceq (zs_iceq (off := 290) (by decide +kernel) (by decide))) <|
  zA_c (zOk_fl zn_push (zs_iconst (n := 0) (by decide +kernel) rfl)) <|
  zA_c (zs_zret (by decide +kernel) rfl) <|
  zA_c (zOk_fl zn_aload (zs_aload_n (q := 1) rfl (by decide +kernel))) <|
  zA_c (zOk_fl zn_aload (zs_aload_n (q := 0) rfl (by decide +kernel))) <|
  zA_c (zOk_fl zn_iload (zs_iload_n (q := 3) rfl (by decide +kernel))) <|
  zA_c (zOk_fl zn_push (zs_iconst (n := 1) (by decide +kernel) rfl)) <|
  zA_c (zOk_fl zn_bin (zs_iadd (by decide +kernel))) <|
  zA_c (zOk_fl zn_ald (zs_iald (by decide +kernel))) <|
  zA_c (zOk_fl zn_aload (zs_aload_n (q := 0) rfl (by decide +kernel))) <|
  zA_c (zOk_fl zn_iload (zs_iload_n (q := 3) rfl (by decide +kernel))) <|
  zA_c (zOk_fl zn_push (zs_iconst (n := 2) (by decide +kernel) rfl)) <|
  zA_c (zOk_fl zn_bin (zs_iadd (by decide +kernel))) <|
  zA_c (zOk_fl zn_ald (zs_iald (by decide +kernel))) <|
  zA_c (zOk_fl zn_aload (zs_aload_n (q := 0) rfl (by decide +kernel))) <|
  zA_c (zOk_fl zn_iload (zs_iload_n (q := 3) rfl (by decide +kernel))) <|
  zA_c (zOk_fl zn_push (zs_iconst (n := 3) (by decide +kernel) rfl)) <|
  zA_c (zOk_fl zn_bin (zs_iadd (by decide +kernel))) <|
  zA_c (zOk_fl zn_ald (zs_iald (by decide +kernel))) <|
  zA_n
def zcl_law_26 : List (Nat × zmI) := [(832, zm_call 835 176 4 true 0), (835, zm_aload 836 2), (836, zm_aload 837 0), (837, zm_iload 838 3), (838, zm_push 839 1), (839, zm_bin 840 (fun x y => w32 (x + y))), (840, zm_ald 841 100), (841, zm_aload 842 0), (842, zm_iload 843 3), (843, zm_push 844 2), (844, zm_bin 845 (fun x y => w32 (x + y))), (845, zm_ald 846 100), (846, zm_aload 847 0), (847, zm_iload 848 3), (848, zm_push 849 3), (849, zm_bin 850 (fun x y => w32 (x + y))), (850, zm_ald 851 100), (851, zm_call 854 203 4 true 12), (854, zm_iceq 857 1101), (857, zm_push 858 0), (858, zm_zret), (859, zm_aload 860 1), (860, zm_aload 861 0), (861, zm_iload 862 3), (862, zm_push 863 1), (863, zm_bin 864 (fun x y => w32 (x + y)))]
theorem zmc_law_26 (l : Launch) : zAll l "ChessWireLaw" code 4 false (some .boolean) zcl_law_26 :=
  zA_c (zk_V zq_176 zw_1047 rfl (by decide +kernel)) <|
  zA_c (zOk_fl zn_aload (zs_aload_n (q := 2) rfl (by decide +kernel))) <|
  zA_c (zOk_fl zn_aload (zs_aload_n (q := 0) rfl (by decide +kernel))) <|
  zA_c (zOk_fl zn_iload (zs_iload_n (q := 3) rfl (by decide +kernel))) <|
  zA_c (zOk_fl zn_push (zs_iconst (n := 1) (by decide +kernel) rfl)) <|
  zA_c (zOk_fl zn_bin (zs_iadd (by decide +kernel))) <|
  zA_c (zOk_fl zn_ald (zs_iald (by decide +kernel))) <|
  zA_c (zOk_fl zn_aload (zs_aload_n (q := 0) rfl (by decide +kernel))) <|
  zA_c (zOk_fl zn_iload (zs_iload_n (q := 3) rfl (by decide +kernel))) <|
  zA_c (zOk_fl zn_push (zs_iconst (n := 2) (by decide +kernel) rfl)) <|
  zA_c (zOk_fl zn_bin (zs_iadd (by decide +kernel))) <|
  zA_c (zOk_fl zn_ald (zs_iald (by decide +kernel))) <|
  zA_c (zOk_fl zn_aload (zs_aload_n (q := 0) rfl (by decide +kernel))) <|
  zA_c (zOk_fl zn_iload (zs_iload_n (q := 3) rfl (by decide +kernel))) <|
  zA_c (zOk_fl zn_push (zs_iconst (n := 3) (by decide +kernel) rfl)) <|
  zA_c (zOk_fl zn_bin (zs_iadd (by decide +kernel))) <|
  zA_c (zOk_fl zn_ald (zs_iald (by decide +kernel))) <|
  zA_c (zk_V zq_203 zw_1295 rfl (by decide +kernel)) <|
  zA_c (zOk_fl zn_iceq (zs_iceq (off := 247) (by decide +kernel) (by decide))) <|
  zA_c (zOk_fl zn_push (zs_iconst (n := 0) (by decide +kernel) rfl)) <|
  zA_c (zs_zret (by decide +kernel) rfl) <|
  zA_c (zOk_fl zn_aload (zs_aload_n (q := 1) rfl (by decide +kernel))) <|
  zA_c (zOk_fl zn_aload (zs_aload_n (q := 0) rfl (by decide +kernel))) <|
  zA_c (zOk_fl zn_iload (zs_iload_n (q := 3) rfl (by decide +kernel))) <|
  zA_c (zOk_fl zn_push (zs_iconst (n := 1) (by decide +kernel) rfl)) <|
  zA_c (zOk_fl zn_bin (zs_iadd (by decide +kernel))) <|
  zA_n
def zcl_law_27 : List (Nat × zmI) := [(864, zm_ald 865 100), (865, zm_call 868 179 2 true 0), (868, zm_aload 869 2), (869, zm_aload 870 0), (870, zm_iload 871 3), (871, zm_push 872 1), (872, zm_bin 873 (fun x y => w32 (x + y))), (873, zm_ald 874 100), (874, zm_call 877 206 2 true 12), (877, zm_iceq 880 1101), (880, zm_push 881 0), (881, zm_zret), (882, zm_aload 883 1), (883, zm_aload 884 0), (884, zm_iload 885 3), (885, zm_push 886 1), (886, zm_bin 887 (fun x y => w32 (x + y))), (887, zm_ald 888 100), (888, zm_aload 889 0), (889, zm_iload 890 3), (890, zm_push 891 2), (891, zm_bin 892 (fun x y => w32 (x + y))), (892, zm_ald 893 100), (893, zm_aload 894 0), (894, zm_iload 895 3), (895, zm_push 896 3)]
theorem zmc_law_27 (l : Launch) : zAll l "ChessWireLaw" code 4 false (some .boolean) zcl_law_27 :=
  zA_c (zOk_fl zn_ald (zs_iald (by decide +kernel))) <|
  zA_c (zk_V zq_179 zw_1061 rfl (by decide +kernel)) <|
  zA_c (zOk_fl zn_aload (zs_aload_n (q := 2) rfl (by decide +kernel))) <|
  zA_c (zOk_fl zn_aload (zs_aload_n (q := 0) rfl (by decide +kernel))) <|
  zA_c (zOk_fl zn_iload (zs_iload_n (q := 3) rfl (by decide +kernel))) <|
  zA_c (zOk_fl zn_push (zs_iconst (n := 1) (by decide +kernel) rfl)) <|
  zA_c (zOk_fl zn_bin (zs_iadd (by decide +kernel))) <|
  zA_c (zOk_fl zn_ald (zs_iald (by decide +kernel))) <|
  zA_c (zk_V zq_206 zw_1308 rfl (by decide +kernel)) <|
  zA_c (zOk_fl zn_iceq (zs_iceq (off := 224) (by decide +kernel) (by decide))) <|
  zA_c (zOk_fl zn_push (zs_iconst (n := 0) (by decide +kernel) rfl)) <|
  zA_c (zs_zret (by decide +kernel) rfl) <|
  zA_c (zOk_fl zn_aload (zs_aload_n (q := 1) rfl (by decide +kernel))) <|
  zA_c (zOk_fl zn_aload (zs_aload_n (q := 0) rfl (by decide +kernel))) <|
  zA_c (zOk_fl zn_iload (zs_iload_n (q := 3) rfl (by decide +kernel))) <|
  zA_c (zOk_fl zn_push (zs_iconst (n := 1) (by decide +kernel) rfl)) <|
  zA_c (zOk_fl zn_bin (zs_iadd (by decide +kernel))) <|
  zA_c (zOk_fl zn_ald (zs_iald (by decide +kernel))) <|
  zA_c (zOk_fl zn_aload (zs_aload_n (q := 0) rfl (by decide +kernel))) <|
  zA_c (zOk_fl zn_iload (zs_iload_n (q := 3) rfl (by decide +kernel))) <|
  zA_c (zOk_fl zn_push (zs_iconst (n := 2) (by decide +kernel) rfl)) <|
  zA_c (zOk_fl zn_bin (zs_iadd (by decide +kernel))) <|
  zA_c (zOk_fl zn_ald (zs_iald (by decide +kernel))) <|
  zA_c (zOk_fl zn_aload (zs_aload_n (q := 0) rfl (by decide +kernel))) <|
  zA_c (zOk_fl zn_iload (zs_iload_n (q := 3) rfl (by decide +kernel))) <|
  zA_c (zOk_fl zn_push (zs_iconst (n := 3) (by decide +kernel) rfl)) <|
  zA_n
def zcl_law_28 : List (Nat × zmI) := [(896, zm_bin 897 (fun x y => w32 (x + y))), (897, zm_ald 898 100), (898, zm_aload 899 0), (899, zm_iload 900 3), (900, zm_push 901 4), (901, zm_bin 902 (fun x y => w32 (x + y))), (902, zm_ald 903 100), (903, zm_call 906 181 5 true 0), (906, zm_aload 907 2), (907, zm_aload 908 0), (908, zm_iload 909 3), (909, zm_push 910 1), (910, zm_bin 911 (fun x y => w32 (x + y))), (911, zm_ald 912 100), (912, zm_aload 913 0), (913, zm_iload 914 3), (914, zm_push 915 2), (915, zm_bin 916 (fun x y => w32 (x + y))), (916, zm_ald 917 100), (917, zm_aload 918 0), (918, zm_iload 919 3), (919, zm_push 920 3), (920, zm_bin 921 (fun x y => w32 (x + y))), (921, zm_ald 922 100), (922, zm_aload 923 0), (923, zm_iload 924 3), (924, zm_push 925 4), (925, zm_bin 926 (fun x y => w32 (x + y))), (926, zm_ald 927 100), (927, zm_call 930 207 5 true 12)]
theorem zmc_law_28 (l : Launch) : zAll l "ChessWireLaw" code 4 false (some .boolean) zcl_law_28 :=
  zA_c (zOk_fl zn_bin (zs_iadd (by decide +kernel))) <|
  zA_c (zOk_fl zn_ald (zs_iald (by decide +kernel))) <|
  zA_c (zOk_fl zn_aload (zs_aload_n (q := 0) rfl (by decide +kernel))) <|
  zA_c (zOk_fl zn_iload (zs_iload_n (q := 3) rfl (by decide +kernel))) <|
  zA_c (zOk_fl zn_push (zs_iconst (n := 4) (by decide +kernel) rfl)) <|
  zA_c (zOk_fl zn_bin (zs_iadd (by decide +kernel))) <|
  zA_c (zOk_fl zn_ald (zs_iald (by decide +kernel))) <|
  zA_c (zk_V zq_181 zw_1069 rfl (by decide +kernel)) <|
  zA_c (zOk_fl zn_aload (zs_aload_n (q := 2) rfl (by decide +kernel))) <|
  zA_c (zOk_fl zn_aload (zs_aload_n (q := 0) rfl (by decide +kernel))) <|
  zA_c (zOk_fl zn_iload (zs_iload_n (q := 3) rfl (by decide +kernel))) <|
  zA_c (zOk_fl zn_push (zs_iconst (n := 1) (by decide +kernel) rfl)) <|
  zA_c (zOk_fl zn_bin (zs_iadd (by decide +kernel))) <|
  zA_c (zOk_fl zn_ald (zs_iald (by decide +kernel))) <|
  zA_c (zOk_fl zn_aload (zs_aload_n (q := 0) rfl (by decide +kernel))) <|
  zA_c (zOk_fl zn_iload (zs_iload_n (q := 3) rfl (by decide +kernel))) <|
  zA_c (zOk_fl zn_push (zs_iconst (n := 2) (by decide +kernel) rfl)) <|
  zA_c (zOk_fl zn_bin (zs_iadd (by decide +kernel))) <|
  zA_c (zOk_fl zn_ald (zs_iald (by decide +kernel))) <|
  zA_c (zOk_fl zn_aload (zs_aload_n (q := 0) rfl (by decide +kernel))) <|
  zA_c (zOk_fl zn_iload (zs_iload_n (q := 3) rfl (by decide +kernel))) <|
  zA_c (zOk_fl zn_push (zs_iconst (n := 3) (by decide +kernel) rfl)) <|
  zA_c (zOk_fl zn_bin (zs_iadd (by decide +kernel))) <|
  zA_c (zOk_fl zn_ald (zs_iald (by decide +kernel))) <|
  zA_c (zOk_fl zn_aload (zs_aload_n (q := 0) rfl (by decide +kernel))) <|
  zA_c (zOk_fl zn_iload (zs_iload_n (q := 3) rfl (by decide +kernel))) <|
  zA_c (zOk_fl zn_push (zs_iconst (n := 4) (by decide +kernel) rfl)) <|
  zA_c (zOk_fl zn_bin (zs_iadd (by decide +kernel))) <|
  zA_c (zOk_fl zn_ald (zs_iald (by decide +kernel))) <|
  zA_c (zk_V zq_207 zw_1312 rfl (by decide +kernel)) <|
  zA_n
def zcl_law_29 : List (Nat × zmI) := [(930, zm_iceq 933 1101), (933, zm_push 934 0), (934, zm_zret), (935, zm_aload 936 1), (936, zm_aload 937 0), (937, zm_iload 938 3), (938, zm_push 939 1), (939, zm_bin 940 (fun x y => w32 (x + y))), (940, zm_ald 941 100), (941, zm_aload 942 0), (942, zm_iload 943 3), (943, zm_push 944 2), (944, zm_bin 945 (fun x y => w32 (x + y))), (945, zm_ald 946 100), (946, zm_aload 947 0), (947, zm_iload 948 3), (948, zm_push 949 3), (949, zm_bin 950 (fun x y => w32 (x + y))), (950, zm_ald 951 100), (951, zm_call 954 186 4 true 0), (954, zm_aload 955 2), (955, zm_aload 956 0), (956, zm_iload 957 3), (957, zm_push 958 1), (958, zm_bin 959 (fun x y => w32 (x + y))), (959, zm_ald 960 100)]
theorem zmc_law_29 (l : Launch) : zAll l "ChessWireLaw" code 4 false (some .boolean) zcl_law_29 :=
  zA_c (zOk_fl zn_iceq (zs_iceq (off := 171) (by decide +kernel) (by decide))) <|
  zA_c (zOk_fl zn_push (zs_iconst (n := 0) (by decide +kernel) rfl)) <|
  zA_c (zs_zret (by decide +kernel) rfl) <|
  zA_c (zOk_fl zn_aload (zs_aload_n (q := 1) rfl (by decide +kernel))) <|
  zA_c (zOk_fl zn_aload (zs_aload_n (q := 0) rfl (by decide +kernel))) <|
  zA_c (zOk_fl zn_iload (zs_iload_n (q := 3) rfl (by decide +kernel))) <|
  zA_c (zOk_fl zn_push (zs_iconst (n := 1) (by decide +kernel) rfl)) <|
  zA_c (zOk_fl zn_bin (zs_iadd (by decide +kernel))) <|
  zA_c (zOk_fl zn_ald (zs_iald (by decide +kernel))) <|
  zA_c (zOk_fl zn_aload (zs_aload_n (q := 0) rfl (by decide +kernel))) <|
  zA_c (zOk_fl zn_iload (zs_iload_n (q := 3) rfl (by decide +kernel))) <|
  zA_c (zOk_fl zn_push (zs_iconst (n := 2) (by decide +kernel) rfl)) <|
  zA_c (zOk_fl zn_bin (zs_iadd (by decide +kernel))) <|
  zA_c (zOk_fl zn_ald (zs_iald (by decide +kernel))) <|
  zA_c (zOk_fl zn_aload (zs_aload_n (q := 0) rfl (by decide +kernel))) <|
  zA_c (zOk_fl zn_iload (zs_iload_n (q := 3) rfl (by decide +kernel))) <|
  zA_c (zOk_fl zn_push (zs_iconst (n := 3) (by decide +kernel) rfl)) <|
  zA_c (zOk_fl zn_bin (zs_iadd (by decide +kernel))) <|
  zA_c (zOk_fl zn_ald (zs_iald (by decide +kernel))) <|
  zA_c (zk_V zq_186 zw_1088 rfl (by decide +kernel)) <|
  zA_c (zOk_fl zn_aload (zs_aload_n (q := 2) rfl (by decide +kernel))) <|
  zA_c (zOk_fl zn_aload (zs_aload_n (q := 0) rfl (by decide +kernel))) <|
  zA_c (zOk_fl zn_iload (zs_iload_n (q := 3) rfl (by decide +kernel))) <|
  zA_c (zOk_fl zn_push (zs_iconst (n := 1) (by decide +kernel) rfl)) <|
  zA_c (zOk_fl zn_bin (zs_iadd (by decide +kernel))) <|
  zA_c (zOk_fl zn_ald (zs_iald (by decide +kernel))) <|
  zA_n
def zcl_law_30 : List (Nat × zmI) := [(960, zm_aload 961 0), (961, zm_iload 962 3), (962, zm_push 963 2), (963, zm_bin 964 (fun x y => w32 (x + y))), (964, zm_ald 965 100), (965, zm_aload 966 0), (966, zm_iload 967 3), (967, zm_push 968 3), (968, zm_bin 969 (fun x y => w32 (x + y))), (969, zm_ald 970 100), (970, zm_call 973 210 4 true 12), (973, zm_iceq 976 1101), (976, zm_push 977 0), (977, zm_zret), (978, zm_aload 979 1), (979, zm_aload 980 0), (980, zm_iload 981 3), (981, zm_push 982 1), (982, zm_bin 983 (fun x y => w32 (x + y))), (983, zm_ald 984 100), (984, zm_aload 985 0), (985, zm_iload 986 3), (986, zm_push 987 2), (987, zm_bin 988 (fun x y => w32 (x + y))), (988, zm_ald 989 100), (989, zm_aload 990 0), (990, zm_iload 991 3), (991, zm_push 992 3)]
theorem zmc_law_30 (l : Launch) : zAll l "ChessWireLaw" code 4 false (some .boolean) zcl_law_30 :=
  zA_c (zOk_fl zn_aload (zs_aload_n (q := 0) rfl (by decide +kernel))) <|
  zA_c (zOk_fl zn_iload (zs_iload_n (q := 3) rfl (by decide +kernel))) <|
  zA_c (zOk_fl zn_push (zs_iconst (n := 2) (by decide +kernel) rfl)) <|
  zA_c (zOk_fl zn_bin (zs_iadd (by decide +kernel))) <|
  zA_c (zOk_fl zn_ald (zs_iald (by decide +kernel))) <|
  zA_c (zOk_fl zn_aload (zs_aload_n (q := 0) rfl (by decide +kernel))) <|
  zA_c (zOk_fl zn_iload (zs_iload_n (q := 3) rfl (by decide +kernel))) <|
  zA_c (zOk_fl zn_push (zs_iconst (n := 3) (by decide +kernel) rfl)) <|
  zA_c (zOk_fl zn_bin (zs_iadd (by decide +kernel))) <|
  zA_c (zOk_fl zn_ald (zs_iald (by decide +kernel))) <|
  zA_c (zk_V zq_210 zw_1323 rfl (by decide +kernel)) <|
  zA_c (zOk_fl zn_iceq (zs_iceq (off := 128) (by decide +kernel) (by decide))) <|
  zA_c (zOk_fl zn_push (zs_iconst (n := 0) (by decide +kernel) rfl)) <|
  zA_c (zs_zret (by decide +kernel) rfl) <|
  zA_c (zOk_fl zn_aload (zs_aload_n (q := 1) rfl (by decide +kernel))) <|
  zA_c (zOk_fl zn_aload (zs_aload_n (q := 0) rfl (by decide +kernel))) <|
  zA_c (zOk_fl zn_iload (zs_iload_n (q := 3) rfl (by decide +kernel))) <|
  zA_c (zOk_fl zn_push (zs_iconst (n := 1) (by decide +kernel) rfl)) <|
  zA_c (zOk_fl zn_bin (zs_iadd (by decide +kernel))) <|
  zA_c (zOk_fl zn_ald (zs_iald (by decide +kernel))) <|
  zA_c (zOk_fl zn_aload (zs_aload_n (q := 0) rfl (by decide +kernel))) <|
  zA_c (zOk_fl zn_iload (zs_iload_n (q := 3) rfl (by decide +kernel))) <|
  zA_c (zOk_fl zn_push (zs_iconst (n := 2) (by decide +kernel) rfl)) <|
  zA_c (zOk_fl zn_bin (zs_iadd (by decide +kernel))) <|
  zA_c (zOk_fl zn_ald (zs_iald (by decide +kernel))) <|
  zA_c (zOk_fl zn_aload (zs_aload_n (q := 0) rfl (by decide +kernel))) <|
  zA_c (zOk_fl zn_iload (zs_iload_n (q := 3) rfl (by decide +kernel))) <|
  zA_c (zOk_fl zn_push (zs_iconst (n := 3) (by decide +kernel) rfl)) <|
  zA_n
def zcl_law_31 : List (Nat × zmI) := [(992, zm_bin 993 (fun x y => w32 (x + y))), (993, zm_ald 994 100), (994, zm_aload 995 0), (995, zm_iload 996 3), (996, zm_push 997 4), (997, zm_bin 998 (fun x y => w32 (x + y))), (998, zm_ald 999 100), (999, zm_aload 1000 0), (1000, zm_iload 1001 3), (1001, zm_push 1002 5), (1002, zm_bin 1003 (fun x y => w32 (x + y))), (1003, zm_ald 1004 100), (1004, zm_call 1007 187 6 true 0), (1007, zm_aload 1008 2), (1008, zm_aload 1009 0), (1009, zm_iload 1010 3), (1010, zm_push 1011 1), (1011, zm_bin 1012 (fun x y => w32 (x + y))), (1012, zm_ald 1013 100), (1013, zm_aload 1014 0), (1014, zm_iload 1015 3), (1015, zm_push 1016 2), (1016, zm_bin 1017 (fun x y => w32 (x + y))), (1017, zm_ald 1018 100), (1018, zm_aload 1019 0), (1019, zm_iload 1020 3), (1020, zm_push 1021 3), (1021, zm_bin 1022 (fun x y => w32 (x + y))), (1022, zm_ald 1023 100), (1023, zm_aload 1024 0)]
theorem zmc_law_31 (l : Launch) : zAll l "ChessWireLaw" code 4 false (some .boolean) zcl_law_31 :=
  zA_c (zOk_fl zn_bin (zs_iadd (by decide +kernel))) <|
  zA_c (zOk_fl zn_ald (zs_iald (by decide +kernel))) <|
  zA_c (zOk_fl zn_aload (zs_aload_n (q := 0) rfl (by decide +kernel))) <|
  zA_c (zOk_fl zn_iload (zs_iload_n (q := 3) rfl (by decide +kernel))) <|
  zA_c (zOk_fl zn_push (zs_iconst (n := 4) (by decide +kernel) rfl)) <|
  zA_c (zOk_fl zn_bin (zs_iadd (by decide +kernel))) <|
  zA_c (zOk_fl zn_ald (zs_iald (by decide +kernel))) <|
  zA_c (zOk_fl zn_aload (zs_aload_n (q := 0) rfl (by decide +kernel))) <|
  zA_c (zOk_fl zn_iload (zs_iload_n (q := 3) rfl (by decide +kernel))) <|
  zA_c (zOk_fl zn_push (zs_iconst (n := 5) (by decide +kernel) rfl)) <|
  zA_c (zOk_fl zn_bin (zs_iadd (by decide +kernel))) <|
  zA_c (zOk_fl zn_ald (zs_iald (by decide +kernel))) <|
  zA_c (zk_V zq_187 zw_1093 rfl (by decide +kernel)) <|
  zA_c (zOk_fl zn_aload (zs_aload_n (q := 2) rfl (by decide +kernel))) <|
  zA_c (zOk_fl zn_aload (zs_aload_n (q := 0) rfl (by decide +kernel))) <|
  zA_c (zOk_fl zn_iload (zs_iload_n (q := 3) rfl (by decide +kernel))) <|
  zA_c (zOk_fl zn_push (zs_iconst (n := 1) (by decide +kernel) rfl)) <|
  zA_c (zOk_fl zn_bin (zs_iadd (by decide +kernel))) <|
  zA_c (zOk_fl zn_ald (zs_iald (by decide +kernel))) <|
  zA_c (zOk_fl zn_aload (zs_aload_n (q := 0) rfl (by decide +kernel))) <|
  zA_c (zOk_fl zn_iload (zs_iload_n (q := 3) rfl (by decide +kernel))) <|
  zA_c (zOk_fl zn_push (zs_iconst (n := 2) (by decide +kernel) rfl)) <|
  zA_c (zOk_fl zn_bin (zs_iadd (by decide +kernel))) <|
  zA_c (zOk_fl zn_ald (zs_iald (by decide +kernel))) <|
  zA_c (zOk_fl zn_aload (zs_aload_n (q := 0) rfl (by decide +kernel))) <|
  zA_c (zOk_fl zn_iload (zs_iload_n (q := 3) rfl (by decide +kernel))) <|
  zA_c (zOk_fl zn_push (zs_iconst (n := 3) (by decide +kernel) rfl)) <|
  zA_c (zOk_fl zn_bin (zs_iadd (by decide +kernel))) <|
  zA_c (zOk_fl zn_ald (zs_iald (by decide +kernel))) <|
  zA_c (zOk_fl zn_aload (zs_aload_n (q := 0) rfl (by decide +kernel))) <|
  zA_n
def zcl_law_32 : List (Nat × zmI) := [(1024, zm_iload 1025 3), (1025, zm_push 1026 4), (1026, zm_bin 1027 (fun x y => w32 (x + y))), (1027, zm_ald 1028 100), (1028, zm_aload 1029 0), (1029, zm_iload 1030 3), (1030, zm_push 1031 5), (1031, zm_bin 1032 (fun x y => w32 (x + y))), (1032, zm_ald 1033 100), (1033, zm_call 1036 211 6 true 12), (1036, zm_iceq 1039 1101), (1039, zm_push 1040 0), (1040, zm_zret), (1041, zm_aload 1042 1), (1042, zm_aload 1043 0), (1043, zm_iload 1044 3), (1044, zm_push 1045 1), (1045, zm_bin 1046 (fun x y => w32 (x + y))), (1046, zm_ald 1047 100), (1047, zm_call 1050 189 2 true 0), (1050, zm_aload 1051 2), (1051, zm_aload 1052 0), (1052, zm_iload 1053 3), (1053, zm_push 1054 1), (1054, zm_bin 1055 (fun x y => w32 (x + y))), (1055, zm_ald 1056 100)]
theorem zmc_law_32 (l : Launch) : zAll l "ChessWireLaw" code 4 false (some .boolean) zcl_law_32 :=
  zA_c (zOk_fl zn_iload (zs_iload_n (q := 3) rfl (by decide +kernel))) <|
  zA_c (zOk_fl zn_push (zs_iconst (n := 4) (by decide +kernel) rfl)) <|
  zA_c (zOk_fl zn_bin (zs_iadd (by decide +kernel))) <|
  zA_c (zOk_fl zn_ald (zs_iald (by decide +kernel))) <|
  zA_c (zOk_fl zn_aload (zs_aload_n (q := 0) rfl (by decide +kernel))) <|
  zA_c (zOk_fl zn_iload (zs_iload_n (q := 3) rfl (by decide +kernel))) <|
  zA_c (zOk_fl zn_push (zs_iconst (n := 5) (by decide +kernel) rfl)) <|
  zA_c (zOk_fl zn_bin (zs_iadd (by decide +kernel))) <|
  zA_c (zOk_fl zn_ald (zs_iald (by decide +kernel))) <|
  zA_c (zk_V zq_211 zw_1328 rfl (by decide +kernel)) <|
  zA_c (zOk_fl zn_iceq (zs_iceq (off := 65) (by decide +kernel) (by decide))) <|
  zA_c (zOk_fl zn_push (zs_iconst (n := 0) (by decide +kernel) rfl)) <|
  zA_c (zs_zret (by decide +kernel) rfl) <|
  zA_c (zOk_fl zn_aload (zs_aload_n (q := 1) rfl (by decide +kernel))) <|
  zA_c (zOk_fl zn_aload (zs_aload_n (q := 0) rfl (by decide +kernel))) <|
  zA_c (zOk_fl zn_iload (zs_iload_n (q := 3) rfl (by decide +kernel))) <|
  zA_c (zOk_fl zn_push (zs_iconst (n := 1) (by decide +kernel) rfl)) <|
  zA_c (zOk_fl zn_bin (zs_iadd (by decide +kernel))) <|
  zA_c (zOk_fl zn_ald (zs_iald (by decide +kernel))) <|
  zA_c (zk_V zq_189 zw_1103 rfl (by decide +kernel)) <|
  zA_c (zOk_fl zn_aload (zs_aload_n (q := 2) rfl (by decide +kernel))) <|
  zA_c (zOk_fl zn_aload (zs_aload_n (q := 0) rfl (by decide +kernel))) <|
  zA_c (zOk_fl zn_iload (zs_iload_n (q := 3) rfl (by decide +kernel))) <|
  zA_c (zOk_fl zn_push (zs_iconst (n := 1) (by decide +kernel) rfl)) <|
  zA_c (zOk_fl zn_bin (zs_iadd (by decide +kernel))) <|
  zA_c (zOk_fl zn_ald (zs_iald (by decide +kernel))) <|
  zA_n
def zcl_law_33 : List (Nat × zmI) := [(1056, zm_call 1059 301 2 true 12), (1059, zm_iceq 1062 1101), (1062, zm_push 1063 0), (1063, zm_zret), (1064, zm_aload 1065 1), (1065, zm_aload 1066 0), (1066, zm_iload 1067 3), (1067, zm_push 1068 1), (1068, zm_bin 1069 (fun x y => w32 (x + y))), (1069, zm_ald 1070 100), (1070, zm_call 1073 190 2 true 0), (1073, zm_aload 1074 2), (1074, zm_aload 1075 0), (1075, zm_iload 1076 3), (1076, zm_push 1077 1), (1077, zm_bin 1078 (fun x y => w32 (x + y))), (1078, zm_ald 1079 100), (1079, zm_call 1082 302 2 true 12), (1082, zm_iceq 1085 1101), (1085, zm_push 1086 0), (1086, zm_zret), (1087, zm_aload 1088 1)]
theorem zmc_law_33 (l : Launch) : zAll l "ChessWireLaw" code 4 false (some .boolean) zcl_law_33 :=
  zA_c (zk_V zq_301 zw_1686 rfl (by decide +kernel)) <|
  zA_c (zOk_fl zn_iceq (zs_iceq (off := 42) (by decide +kernel) (by decide))) <|
  zA_c (zOk_fl zn_push (zs_iconst (n := 0) (by decide +kernel) rfl)) <|
  zA_c (zs_zret (by decide +kernel) rfl) <|
  zA_c (zOk_fl zn_aload (zs_aload_n (q := 1) rfl (by decide +kernel))) <|
  zA_c (zOk_fl zn_aload (zs_aload_n (q := 0) rfl (by decide +kernel))) <|
  zA_c (zOk_fl zn_iload (zs_iload_n (q := 3) rfl (by decide +kernel))) <|
  zA_c (zOk_fl zn_push (zs_iconst (n := 1) (by decide +kernel) rfl)) <|
  zA_c (zOk_fl zn_bin (zs_iadd (by decide +kernel))) <|
  zA_c (zOk_fl zn_ald (zs_iald (by decide +kernel))) <|
  zA_c (zk_V zq_190 zw_1108 rfl (by decide +kernel)) <|
  zA_c (zOk_fl zn_aload (zs_aload_n (q := 2) rfl (by decide +kernel))) <|
  zA_c (zOk_fl zn_aload (zs_aload_n (q := 0) rfl (by decide +kernel))) <|
  zA_c (zOk_fl zn_iload (zs_iload_n (q := 3) rfl (by decide +kernel))) <|
  zA_c (zOk_fl zn_push (zs_iconst (n := 1) (by decide +kernel) rfl)) <|
  zA_c (zOk_fl zn_bin (zs_iadd (by decide +kernel))) <|
  zA_c (zOk_fl zn_ald (zs_iald (by decide +kernel))) <|
  zA_c (zk_V zq_302 zw_1690 rfl (by decide +kernel)) <|
  zA_c (zOk_fl zn_iceq (zs_iceq (off := 19) (by decide +kernel) (by decide))) <|
  zA_c (zOk_fl zn_push (zs_iconst (n := 0) (by decide +kernel) rfl)) <|
  zA_c (zs_zret (by decide +kernel) rfl) <|
  zA_c (zOk_fl zn_aload (zs_aload_n (q := 1) rfl (by decide +kernel))) <|
  zA_n
def zcl_law_34 : List (Nat × zmI) := [(1088, zm_call 1091 192 1 true 0), (1091, zm_aload 1092 2), (1092, zm_call 1095 303 1 true 12), (1095, zm_lcmp 1096), (1096, zm_ifeq 1099 1101), (1099, zm_push 1100 0), (1100, zm_zret), (1101, zm_iinc 1104 3 6), (1104, zm_goto 18), (1107, zm_push 1108 1), (1108, zm_zret)]
theorem zmc_law_34 (l : Launch) : zAll l "ChessWireLaw" code 4 false (some .boolean) zcl_law_34 :=
  zA_c (zk_V zq_192 zw_1118 rfl (by decide +kernel)) <|
  zA_c (zOk_fl zn_aload (zs_aload_n (q := 2) rfl (by decide +kernel))) <|
  zA_c (zk_V zq_303 zw_1694 rfl (by decide +kernel)) <|
  zA_c (zOk_fl zn_lcmp (zs_lcmp (by decide +kernel))) <|
  zA_c (zOk_fl zn_ifeq (zs_ifeq (off := 5) (by decide +kernel) (by decide))) <|
  zA_c (zOk_fl zn_push (zs_iconst (n := 0) (by decide +kernel) rfl)) <|
  zA_c (zs_zret (by decide +kernel) rfl) <|
  zA_c (zOk_fl zn_iinc (zs_iinc rfl (by decide +kernel))) <|
  zA_c (zOk_fl zn_goto (zs_goto (off := (-1086)) (by decide +kernel) (by decide))) <|
  zA_c (zOk_fl zn_push (zs_iconst (n := 1) (by decide +kernel) rfl)) <|
  zA_c (zs_zret (by decide +kernel) rfl) <|
  zA_n
def zc_law : Nat → zmI := zgetC [zcl_law_0, zcl_law_1, zcl_law_2, zcl_law_3, zcl_law_4, zcl_law_5, zcl_law_6, zcl_law_7, zcl_law_8, zcl_law_9, zcl_law_10, zcl_law_11, zcl_law_12, zcl_law_13, zcl_law_14, zcl_law_15, zcl_law_16, zcl_law_17, zcl_law_18, zcl_law_19, zcl_law_20, zcl_law_21, zcl_law_22, zcl_law_23, zcl_law_24, zcl_law_25, zcl_law_26, zcl_law_27, zcl_law_28, zcl_law_29, zcl_law_30, zcl_law_31, zcl_law_32, zcl_law_33, zcl_law_34]
theorem zmf_law (l : Launch) (pc : Nat) : zOk l "ChessWireLaw" code 4 false (some .boolean) pc (zc_law pc) := zgetC_ok (zA2_c (zmc_law_0 l) (zA2_c (zmc_law_1 l) (zA2_c (zmc_law_2 l) (zA2_c (zmc_law_3 l) (zA2_c (zmc_law_4 l) (zA2_c (zmc_law_5 l) (zA2_c (zmc_law_6 l) (zA2_c (zmc_law_7 l) (zA2_c (zmc_law_8 l) (zA2_c (zmc_law_9 l) (zA2_c (zmc_law_10 l) (zA2_c (zmc_law_11 l) (zA2_c (zmc_law_12 l) (zA2_c (zmc_law_13 l) (zA2_c (zmc_law_14 l) (zA2_c (zmc_law_15 l) (zA2_c (zmc_law_16 l) (zA2_c (zmc_law_17 l) (zA2_c (zmc_law_18 l) (zA2_c (zmc_law_19 l) (zA2_c (zmc_law_20 l) (zA2_c (zmc_law_21 l) (zA2_c (zmc_law_22 l) (zA2_c (zmc_law_23 l) (zA2_c (zmc_law_24 l) (zA2_c (zmc_law_25 l) (zA2_c (zmc_law_26 l) (zA2_c (zmc_law_27 l) (zA2_c (zmc_law_28 l) (zA2_c (zmc_law_29 l) (zA2_c (zmc_law_30 l) (zA2_c (zmc_law_31 l) (zA2_c (zmc_law_32 l) (zA2_c (zmc_law_33 l) (zA2_c (zmc_law_34 l) (zA2_n)))))))))))))))))))))))))))))))))))) pc
def zP_tab : List (List (Nat → zmI)) := [[zc_0, (fun _ => zm_no), zc_2, zc_3, zc_4, zc_5, zc_6, zc_7, zc_8, zc_9, zc_10, zc_11, zc_12, zc_13, zc_14, zc_15, zc_16, zc_17, zc_18, zc_19], [zc_20, zc_21, zc_22, zc_23, zc_24, zc_25, zc_26, zc_27, zc_28, zc_29, zc_30, zc_31, zc_32, zc_33, zc_34, zc_35, zc_36, (fun _ => zm_no), (fun _ => zm_no), (fun _ => zm_no)], [(fun _ => zm_no), (fun _ => zm_no), (fun _ => zm_no), (fun _ => zm_no), (fun _ => zm_no), (fun _ => zm_no), (fun _ => zm_no), (fun _ => zm_no), (fun _ => zm_no), zc_49, zc_50, zc_51, zc_52, zc_53, zc_54, zc_55, zc_56, zc_57, zc_58, zc_59], [zc_60, zc_61, zc_62, zc_63, zc_64, zc_65, zc_66, (fun _ => zm_chk), (fun _ => zm_no), (fun _ => zm_no), (fun _ => zm_no), zc_71, zc_72, zc_73, zc_74, zc_75, zc_76, zc_77, zc_78, zc_79], [zc_80, zc_81, zc_82, zc_83, zc_84, zc_85, zc_86, zc_87, zc_88, zc_89, zc_90, zc_91, zc_92, zc_93, zc_94, zc_95, zc_96, zc_97, zc_98, zc_99], [zc_100, zc_101, zc_102, zc_103, zc_104, zc_105, zc_106, zc_107, zc_108, zc_109, zc_110, zc_111, zc_112, zc_113, zc_114, zc_115, zc_116, zc_117, zc_118, zc_119], [zc_120, zc_121, zc_122, zc_123, zc_124, zc_125, zc_126, zc_127, zc_128, zc_129, zc_130, zc_131, zc_132, zc_133, zc_134, zc_135, zc_136, zc_137, zc_138, zc_139], [zc_140, zc_141, zc_142, zc_143, zc_144, zc_145, zc_146, zc_147, zc_148, zc_149, zc_150, zc_151, zc_152, zc_153, zc_154, zc_155, zc_156, zc_157, zc_158, zc_159], [zc_160, zc_161, zc_162, zc_163, zc_164, zc_165, zc_166, zc_167, zc_168, zc_169, zc_170, zc_171, zc_172, zc_173, zc_174, zc_175, zc_176, zc_177, zc_178, zc_179], [zc_180, zc_181, zc_182, zc_183, zc_184, zc_185, zc_186, zc_187, zc_188, zc_189, zc_190, zc_191, zc_192, zc_193, zc_194, zc_195, zc_196, zc_197, zc_198, zc_199], [zc_200, zc_201, zc_202, zc_203, zc_204, zc_205, zc_206, zc_207, zc_208, zc_209, zc_210, zc_211, zc_212, zc_213, zc_214, zc_215, zc_216, zc_217, zc_218, zc_219], [zc_220, zc_221, zc_222, zc_223, zc_224, zc_225, zc_226, zc_227, zc_228, zc_229, zc_230, zc_231, zc_232, zc_233, zc_234, zc_235, zc_236, zc_237, zc_238, zc_239], [zc_240, zc_241, zc_242, zc_243, zc_244, zc_245, zc_246, zc_247, zc_248, zc_249, zc_250, zc_251, zc_252, zc_253, zc_254, zc_255, zc_256, zc_257, zc_258, zc_259], [zc_260, zc_261, zc_262, zc_263, zc_264, zc_265, zc_266, zc_267, zc_268, zc_269, zc_270, zc_271, zc_272, zc_273, zc_274, zc_275, zc_276, zc_277, zc_278, zc_279], [zc_280, zc_281, zc_282, zc_283, zc_284, zc_285, zc_286, zc_287, zc_288, zc_289, zc_290, zc_291, zc_292, zc_293, zc_294, zc_295, zc_296, zc_297, zc_298, zc_299], [zc_300, zc_301, zc_302, zc_303]]
/-- the program of the small machine -/
def zP (y : Nat) : (Nat → zmI) × Nat := ((zP_tab.getD (y / 20) []).getD (y % 20) (fun _ => zm_no), (zMI y).2.2.1)
theorem zP_67 : zP 67 = (fun _ => zm_chk, 2) := rfl
theorem zP_0 : zP 0 = (zc_0, 1) := rfl
theorem zP_2 : zP 2 = (zc_2, 2) := rfl
theorem zP_3 : zP 3 = (zc_3, 2) := rfl
theorem zP_4 : zP 4 = (zc_4, 1) := rfl
theorem zP_5 : zP 5 = (zc_5, 1) := rfl
theorem zP_6 : zP 6 = (zc_6, 1) := rfl
theorem zP_7 : zP 7 = (zc_7, 3) := rfl
theorem zP_8 : zP 8 = (zc_8, 1) := rfl
theorem zP_9 : zP 9 = (zc_9, 1) := rfl
theorem zP_10 : zP 10 = (zc_10, 1) := rfl
theorem zP_11 : zP 11 = (zc_11, 2) := rfl
theorem zP_12 : zP 12 = (zc_12, 1) := rfl
theorem zP_13 : zP 13 = (zc_13, 1) := rfl
theorem zP_14 : zP 14 = (zc_14, 3) := rfl
theorem zP_15 : zP 15 = (zc_15, 2) := rfl
theorem zP_16 : zP 16 = (zc_16, 2) := rfl
theorem zP_17 : zP 17 = (zc_17, 2) := rfl
theorem zP_18 : zP 18 = (zc_18, 1) := rfl
theorem zP_19 : zP 19 = (zc_19, 4) := rfl
theorem zP_20 : zP 20 = (zc_20, 1) := rfl
theorem zP_21 : zP 21 = (zc_21, 4) := rfl
theorem zP_22 : zP 22 = (zc_22, 1) := rfl
theorem zP_23 : zP 23 = (zc_23, 2) := rfl
theorem zP_24 : zP 24 = (zc_24, 3) := rfl
theorem zP_25 : zP 25 = (zc_25, 2) := rfl
theorem zP_26 : zP 26 = (zc_26, 2) := rfl
theorem zP_27 : zP 27 = (zc_27, 2) := rfl
theorem zP_28 : zP 28 = (zc_28, 2) := rfl
theorem zP_29 : zP 29 = (zc_29, 3) := rfl
theorem zP_30 : zP 30 = (zc_30, 1) := rfl
theorem zP_31 : zP 31 = (zc_31, 1) := rfl
theorem zP_32 : zP 32 = (zc_32, 1) := rfl
theorem zP_33 : zP 33 = (zc_33, 4) := rfl
theorem zP_34 : zP 34 = (zc_34, 1) := rfl
theorem zP_35 : zP 35 = (zc_35, 2) := rfl
theorem zP_36 : zP 36 = (zc_36, 6) := rfl
theorem zP_49 : zP 49 = (zc_49, 3) := rfl
theorem zP_50 : zP 50 = (zc_50, 2) := rfl
theorem zP_51 : zP 51 = (zc_51, 3) := rfl
theorem zP_52 : zP 52 = (zc_52, 2) := rfl
theorem zP_53 : zP 53 = (zc_53, 3) := rfl
theorem zP_54 : zP 54 = (zc_54, 1) := rfl
theorem zP_55 : zP 55 = (zc_55, 2) := rfl
theorem zP_56 : zP 56 = (zc_56, 3) := rfl
theorem zP_57 : zP 57 = (zc_57, 4) := rfl
theorem zP_58 : zP 58 = (zc_58, 1) := rfl
theorem zP_59 : zP 59 = (zc_59, 1) := rfl
theorem zP_60 : zP 60 = (zc_60, 1) := rfl
theorem zP_61 : zP 61 = (zc_61, 5) := rfl
theorem zP_62 : zP 62 = (zc_62, 2) := rfl
theorem zP_63 : zP 63 = (zc_63, 2) := rfl
theorem zP_64 : zP 64 = (zc_64, 1) := rfl
theorem zP_65 : zP 65 = (zc_65, 2) := rfl
theorem zP_66 : zP 66 = (zc_66, 2) := rfl
theorem zP_71 : zP 71 = (zc_71, 1) := rfl
theorem zP_72 : zP 72 = (zc_72, 1) := rfl
theorem zP_73 : zP 73 = (zc_73, 2) := rfl
theorem zP_74 : zP 74 = (zc_74, 1) := rfl
theorem zP_75 : zP 75 = (zc_75, 14) := rfl
theorem zP_76 : zP 76 = (zc_76, 1) := rfl
theorem zP_77 : zP 77 = (zc_77, 8) := rfl
theorem zP_78 : zP 78 = (zc_78, 10) := rfl
theorem zP_79 : zP 79 = (zc_79, 4) := rfl
theorem zP_80 : zP 80 = (zc_80, 4) := rfl
theorem zP_81 : zP 81 = (zc_81, 9) := rfl
theorem zP_82 : zP 82 = (zc_82, 8) := rfl
theorem zP_83 : zP 83 = (zc_83, 11) := rfl
theorem zP_84 : zP 84 = (zc_84, 2) := rfl
theorem zP_85 : zP 85 = (zc_85, 3) := rfl
theorem zP_86 : zP 86 = (zc_86, 4) := rfl
theorem zP_87 : zP 87 = (zc_87, 7) := rfl
theorem zP_88 : zP 88 = (zc_88, 3) := rfl
theorem zP_89 : zP 89 = (zc_89, 5) := rfl
theorem zP_90 : zP 90 = (zc_90, 1) := rfl
theorem zP_91 : zP 91 = (zc_91, 1) := rfl
theorem zP_92 : zP 92 = (zc_92, 1) := rfl
theorem zP_93 : zP 93 = (zc_93, 1) := rfl
theorem zP_94 : zP 94 = (zc_94, 5) := rfl
theorem zP_95 : zP 95 = (zc_95, 5) := rfl
theorem zP_96 : zP 96 = (zc_96, 2) := rfl
theorem zP_97 : zP 97 = (zc_97, 2) := rfl
theorem zP_98 : zP 98 = (zc_98, 2) := rfl
theorem zP_99 : zP 99 = (zc_99, 3) := rfl
theorem zP_100 : zP 100 = (zc_100, 2) := rfl
theorem zP_101 : zP 101 = (zc_101, 1) := rfl
theorem zP_102 : zP 102 = (zc_102, 2) := rfl
theorem zP_103 : zP 103 = (zc_103, 3) := rfl
theorem zP_104 : zP 104 = (zc_104, 2) := rfl
theorem zP_105 : zP 105 = (zc_105, 2) := rfl
theorem zP_106 : zP 106 = (zc_106, 2) := rfl
theorem zP_107 : zP 107 = (zc_107, 2) := rfl
theorem zP_108 : zP 108 = (zc_108, 6) := rfl
theorem zP_109 : zP 109 = (zc_109, 4) := rfl
theorem zP_110 : zP 110 = (zc_110, 2) := rfl
theorem zP_111 : zP 111 = (zc_111, 1) := rfl
theorem zP_112 : zP 112 = (zc_112, 2) := rfl
theorem zP_113 : zP 113 = (zc_113, 1) := rfl
theorem zP_114 : zP 114 = (zc_114, 2) := rfl
theorem zP_115 : zP 115 = (zc_115, 2) := rfl
theorem zP_116 : zP 116 = (zc_116, 4) := rfl
theorem zP_117 : zP 117 = (zc_117, 2) := rfl
theorem zP_118 : zP 118 = (zc_118, 3) := rfl
theorem zP_119 : zP 119 = (zc_119, 6) := rfl
theorem zP_120 : zP 120 = (zc_120, 3) := rfl
theorem zP_121 : zP 121 = (zc_121, 3) := rfl
theorem zP_122 : zP 122 = (zc_122, 4) := rfl
theorem zP_123 : zP 123 = (zc_123, 7) := rfl
theorem zP_124 : zP 124 = (zc_124, 4) := rfl
theorem zP_125 : zP 125 = (zc_125, 4) := rfl
theorem zP_126 : zP 126 = (zc_126, 5) := rfl
theorem zP_127 : zP 127 = (zc_127, 4) := rfl
theorem zP_128 : zP 128 = (zc_128, 2) := rfl
theorem zP_129 : zP 129 = (zc_129, 10) := rfl
theorem zP_130 : zP 130 = (zc_130, 6) := rfl
theorem zP_131 : zP 131 = (zc_131, 2) := rfl
theorem zP_132 : zP 132 = (zc_132, 4) := rfl
theorem zP_133 : zP 133 = (zc_133, 3) := rfl
theorem zP_134 : zP 134 = (zc_134, 3) := rfl
theorem zP_135 : zP 135 = (zc_135, 4) := rfl
theorem zP_136 : zP 136 = (zc_136, 2) := rfl
theorem zP_137 : zP 137 = (zc_137, 4) := rfl
theorem zP_138 : zP 138 = (zc_138, 1) := rfl
theorem zP_139 : zP 139 = (zc_139, 3) := rfl
theorem zP_140 : zP 140 = (zc_140, 3) := rfl
theorem zP_141 : zP 141 = (zc_141, 5) := rfl
theorem zP_142 : zP 142 = (zc_142, 1) := rfl
theorem zP_143 : zP 143 = (zc_143, 1) := rfl
theorem zP_144 : zP 144 = (zc_144, 4) := rfl
theorem zP_145 : zP 145 = (zc_145, 5) := rfl
theorem zP_146 : zP 146 = (zc_146, 1) := rfl
theorem zP_147 : zP 147 = (zc_147, 6) := rfl
theorem zP_148 : zP 148 = (zc_148, 4) := rfl
theorem zP_149 : zP 149 = (zc_149, 6) := rfl
theorem zP_150 : zP 150 = (zc_150, 5) := rfl
theorem zP_151 : zP 151 = (zc_151, 6) := rfl
theorem zP_152 : zP 152 = (zc_152, 2) := rfl
theorem zP_153 : zP 153 = (zc_153, 2) := rfl
theorem zP_154 : zP 154 = (zc_154, 4) := rfl
theorem zP_155 : zP 155 = (zc_155, 5) := rfl
theorem zP_156 : zP 156 = (zc_156, 4) := rfl
theorem zP_157 : zP 157 = (zc_157, 1) := rfl
theorem zP_158 : zP 158 = (zc_158, 1) := rfl
theorem zP_159 : zP 159 = (zc_159, 3) := rfl
theorem zP_160 : zP 160 = (zc_160, 2) := rfl
theorem zP_161 : zP 161 = (zc_161, 2) := rfl
theorem zP_162 : zP 162 = (zc_162, 2) := rfl
theorem zP_163 : zP 163 = (zc_163, 4) := rfl
theorem zP_164 : zP 164 = (zc_164, 1) := rfl
theorem zP_165 : zP 165 = (zc_165, 4) := rfl
theorem zP_166 : zP 166 = (zc_166, 1) := rfl
theorem zP_167 : zP 167 = (zc_167, 5) := rfl
theorem zP_168 : zP 168 = (zc_168, 7) := rfl
theorem zP_169 : zP 169 = (zc_169, 1) := rfl
theorem zP_170 : zP 170 = (zc_170, 3) := rfl
theorem zP_171 : zP 171 = (zc_171, 6) := rfl
theorem zP_172 : zP 172 = (zc_172, 1) := rfl
theorem zP_173 : zP 173 = (zc_173, 3) := rfl
theorem zP_174 : zP 174 = (zc_174, 2) := rfl
theorem zP_175 : zP 175 = (zc_175, 2) := rfl
theorem zP_176 : zP 176 = (zc_176, 4) := rfl
theorem zP_177 : zP 177 = (zc_177, 1) := rfl
theorem zP_178 : zP 178 = (zc_178, 3) := rfl
theorem zP_179 : zP 179 = (zc_179, 3) := rfl
theorem zP_180 : zP 180 = (zc_180, 1) := rfl
theorem zP_181 : zP 181 = (zc_181, 6) := rfl
theorem zP_182 : zP 182 = (zc_182, 3) := rfl
theorem zP_183 : zP 183 = (zc_183, 1) := rfl
theorem zP_184 : zP 184 = (zc_184, 3) := rfl
theorem zP_185 : zP 185 = (zc_185, 3) := rfl
theorem zP_186 : zP 186 = (zc_186, 5) := rfl
theorem zP_187 : zP 187 = (zc_187, 8) := rfl
theorem zP_188 : zP 188 = (zc_188, 5) := rfl
theorem zP_189 : zP 189 = (zc_189, 4) := rfl
theorem zP_190 : zP 190 = (zc_190, 2) := rfl
theorem zP_191 : zP 191 = (zc_191, 4) := rfl
theorem zP_192 : zP 192 = (zc_192, 6) := rfl
theorem zP_193 : zP 193 = (zc_193, 2) := rfl
theorem zP_194 : zP 194 = (zc_194, 3) := rfl
theorem zP_195 : zP 195 = (zc_195, 2) := rfl
theorem zP_196 : zP 196 = (zc_196, 7) := rfl
theorem zP_197 : zP 197 = (zc_197, 3) := rfl
theorem zP_198 : zP 198 = (zc_198, 1) := rfl
theorem zP_199 : zP 199 = (zc_199, 1) := rfl
theorem zP_200 : zP 200 = (zc_200, 4) := rfl
theorem zP_201 : zP 201 = (zc_201, 6) := rfl
theorem zP_202 : zP 202 = (zc_202, 2) := rfl
theorem zP_203 : zP 203 = (zc_203, 5) := rfl
theorem zP_204 : zP 204 = (zc_204, 1) := rfl
theorem zP_205 : zP 205 = (zc_205, 2) := rfl
theorem zP_206 : zP 206 = (zc_206, 2) := rfl
theorem zP_207 : zP 207 = (zc_207, 6) := rfl
theorem zP_208 : zP 208 = (zc_208, 4) := rfl
theorem zP_209 : zP 209 = (zc_209, 2) := rfl
theorem zP_210 : zP 210 = (zc_210, 4) := rfl
theorem zP_211 : zP 211 = (zc_211, 7) := rfl
theorem zP_212 : zP 212 = (zc_212, 3) := rfl
theorem zP_213 : zP 213 = (zc_213, 1) := rfl
theorem zP_214 : zP 214 = (zc_214, 3) := rfl
theorem zP_215 : zP 215 = (zc_215, 2) := rfl
theorem zP_216 : zP 216 = (zc_216, 2) := rfl
theorem zP_217 : zP 217 = (zc_217, 4) := rfl
theorem zP_218 : zP 218 = (zc_218, 1) := rfl
theorem zP_219 : zP 219 = (zc_219, 11) := rfl
theorem zP_220 : zP 220 = (zc_220, 1) := rfl
theorem zP_221 : zP 221 = (zc_221, 1) := rfl
theorem zP_222 : zP 222 = (zc_222, 5) := rfl
theorem zP_223 : zP 223 = (zc_223, 5) := rfl
theorem zP_224 : zP 224 = (zc_224, 2) := rfl
theorem zP_225 : zP 225 = (zc_225, 2) := rfl
theorem zP_226 : zP 226 = (zc_226, 1) := rfl
theorem zP_227 : zP 227 = (zc_227, 1) := rfl
theorem zP_228 : zP 228 = (zc_228, 1) := rfl
theorem zP_229 : zP 229 = (zc_229, 1) := rfl
theorem zP_230 : zP 230 = (zc_230, 2) := rfl
theorem zP_231 : zP 231 = (zc_231, 2) := rfl
theorem zP_232 : zP 232 = (zc_232, 6) := rfl
theorem zP_233 : zP 233 = (zc_233, 1) := rfl
theorem zP_234 : zP 234 = (zc_234, 7) := rfl
theorem zP_235 : zP 235 = (zc_235, 6) := rfl
theorem zP_236 : zP 236 = (zc_236, 8) := rfl
theorem zP_237 : zP 237 = (zc_237, 7) := rfl
theorem zP_238 : zP 238 = (zc_238, 1) := rfl
theorem zP_239 : zP 239 = (zc_239, 6) := rfl
theorem zP_240 : zP 240 = (zc_240, 1) := rfl
theorem zP_241 : zP 241 = (zc_241, 6) := rfl
theorem zP_242 : zP 242 = (zc_242, 5) := rfl
theorem zP_243 : zP 243 = (zc_243, 2) := rfl
theorem zP_244 : zP 244 = (zc_244, 1) := rfl
theorem zP_245 : zP 245 = (zc_245, 1) := rfl
theorem zP_246 : zP 246 = (zc_246, 2) := rfl
theorem zP_247 : zP 247 = (zc_247, 2) := rfl
theorem zP_248 : zP 248 = (zc_248, 3) := rfl
theorem zP_249 : zP 249 = (zc_249, 3) := rfl
theorem zP_250 : zP 250 = (zc_250, 2) := rfl
theorem zP_251 : zP 251 = (zc_251, 3) := rfl
theorem zP_252 : zP 252 = (zc_252, 3) := rfl
theorem zP_253 : zP 253 = (zc_253, 5) := rfl
theorem zP_254 : zP 254 = (zc_254, 7) := rfl
theorem zP_255 : zP 255 = (zc_255, 2) := rfl
theorem zP_256 : zP 256 = (zc_256, 2) := rfl
theorem zP_257 : zP 257 = (zc_257, 4) := rfl
theorem zP_258 : zP 258 = (zc_258, 7) := rfl
theorem zP_259 : zP 259 = (zc_259, 1) := rfl
theorem zP_260 : zP 260 = (zc_260, 3) := rfl
theorem zP_261 : zP 261 = (zc_261, 2) := rfl
theorem zP_262 : zP 262 = (zc_262, 4) := rfl
theorem zP_263 : zP 263 = (zc_263, 2) := rfl
theorem zP_264 : zP 264 = (zc_264, 4) := rfl
theorem zP_265 : zP 265 = (zc_265, 3) := rfl
theorem zP_266 : zP 266 = (zc_266, 4) := rfl
theorem zP_267 : zP 267 = (zc_267, 2) := rfl
theorem zP_268 : zP 268 = (zc_268, 6) := rfl
theorem zP_269 : zP 269 = (zc_269, 3) := rfl
theorem zP_270 : zP 270 = (zc_270, 4) := rfl
theorem zP_271 : zP 271 = (zc_271, 3) := rfl
theorem zP_272 : zP 272 = (zc_272, 2) := rfl
theorem zP_273 : zP 273 = (zc_273, 2) := rfl
theorem zP_274 : zP 274 = (zc_274, 3) := rfl
theorem zP_275 : zP 275 = (zc_275, 3) := rfl
theorem zP_276 : zP 276 = (zc_276, 4) := rfl
theorem zP_277 : zP 277 = (zc_277, 6) := rfl
theorem zP_278 : zP 278 = (zc_278, 1) := rfl
theorem zP_279 : zP 279 = (zc_279, 1) := rfl
theorem zP_280 : zP 280 = (zc_280, 1) := rfl
theorem zP_281 : zP 281 = (zc_281, 3) := rfl
theorem zP_282 : zP 282 = (zc_282, 5) := rfl
theorem zP_283 : zP 283 = (zc_283, 11) := rfl
theorem zP_284 : zP 284 = (zc_284, 5) := rfl
theorem zP_285 : zP 285 = (zc_285, 9) := rfl
theorem zP_286 : zP 286 = (zc_286, 2) := rfl
theorem zP_287 : zP 287 = (zc_287, 2) := rfl
theorem zP_288 : zP 288 = (zc_288, 6) := rfl
theorem zP_289 : zP 289 = (zc_289, 2) := rfl
theorem zP_290 : zP 290 = (zc_290, 2) := rfl
theorem zP_291 : zP 291 = (zc_291, 2) := rfl
theorem zP_292 : zP 292 = (zc_292, 2) := rfl
theorem zP_293 : zP 293 = (zc_293, 1) := rfl
theorem zP_294 : zP 294 = (zc_294, 2) := rfl
theorem zP_295 : zP 295 = (zc_295, 5) := rfl
theorem zP_296 : zP 296 = (zc_296, 3) := rfl
theorem zP_297 : zP 297 = (zc_297, 4) := rfl
theorem zP_298 : zP 298 = (zc_298, 3) := rfl
theorem zP_299 : zP 299 = (zc_299, 4) := rfl
theorem zP_300 : zP 300 = (zc_300, 5) := rfl
theorem zP_301 : zP 301 = (zc_301, 4) := rfl
theorem zP_302 : zP 302 = (zc_302, 4) := rfl
theorem zP_303 : zP 303 = (zc_303, 6) := rfl
def zP_ok (l : Launch) (y : Nat) : Prop := zMf l (zP y).1 y ∨ (zP y).1 = (fun _ => zm_no) ∨ ∀ (d : Nat) (A : List zmV) (w : zmW) (r : Option zmV) (w' : zmW), zmD zP (d + 1) y A w = some (r, w') → (w.1 ≤ w'.1 ∧ w.2.1 ≤ w'.2.1) ∧ zMt l (d + 1) y A w r w'
theorem zpo_0 (l : Launch) : zP_ok l 0 := Or.inl (zmf_0 l)
theorem zpo_1 (l : Launch) : zP_ok l 1 := Or.inr (Or.inl rfl)
theorem zpo_2 (l : Launch) : zP_ok l 2 := Or.inl (zmf_2 l)
theorem zpo_3 (l : Launch) : zP_ok l 3 := Or.inl (zmf_3 l)
theorem zpo_4 (l : Launch) : zP_ok l 4 := Or.inl (zmf_4 l)
theorem zpo_5 (l : Launch) : zP_ok l 5 := Or.inl (zmf_5 l)
theorem zpo_6 (l : Launch) : zP_ok l 6 := Or.inl (zmf_6 l)
theorem zpo_7 (l : Launch) : zP_ok l 7 := Or.inl (zmf_7 l)
theorem zpo_8 (l : Launch) : zP_ok l 8 := Or.inl (zmf_8 l)
theorem zpo_9 (l : Launch) : zP_ok l 9 := Or.inl (zmf_9 l)
theorem zpo_10 (l : Launch) : zP_ok l 10 := Or.inl (zmf_10 l)
theorem zpo_11 (l : Launch) : zP_ok l 11 := Or.inl (zmf_11 l)
theorem zpo_12 (l : Launch) : zP_ok l 12 := Or.inl (zmf_12 l)
theorem zpo_13 (l : Launch) : zP_ok l 13 := Or.inl (zmf_13 l)
theorem zpo_14 (l : Launch) : zP_ok l 14 := Or.inl (zmf_14 l)
theorem zpo_15 (l : Launch) : zP_ok l 15 := Or.inl (zmf_15 l)
theorem zpo_16 (l : Launch) : zP_ok l 16 := Or.inl (zmf_16 l)
theorem zpo_17 (l : Launch) : zP_ok l 17 := Or.inl (zmf_17 l)
theorem zpo_18 (l : Launch) : zP_ok l 18 := Or.inl (zmf_18 l)
theorem zpo_19 (l : Launch) : zP_ok l 19 := Or.inl (zmf_19 l)
theorem zpo_20 (l : Launch) : zP_ok l 20 := Or.inl (zmf_20 l)
theorem zpo_21 (l : Launch) : zP_ok l 21 := Or.inl (zmf_21 l)
theorem zpo_22 (l : Launch) : zP_ok l 22 := Or.inl (zmf_22 l)
theorem zpo_23 (l : Launch) : zP_ok l 23 := Or.inl (zmf_23 l)
theorem zpo_24 (l : Launch) : zP_ok l 24 := Or.inl (zmf_24 l)
theorem zpo_25 (l : Launch) : zP_ok l 25 := Or.inl (zmf_25 l)
theorem zpo_26 (l : Launch) : zP_ok l 26 := Or.inl (zmf_26 l)
theorem zpo_27 (l : Launch) : zP_ok l 27 := Or.inl (zmf_27 l)
theorem zpo_28 (l : Launch) : zP_ok l 28 := Or.inl (zmf_28 l)
theorem zpo_29 (l : Launch) : zP_ok l 29 := Or.inl (zmf_29 l)
theorem zpo_30 (l : Launch) : zP_ok l 30 := Or.inl (zmf_30 l)
theorem zpo_31 (l : Launch) : zP_ok l 31 := Or.inl (zmf_31 l)
theorem zpo_32 (l : Launch) : zP_ok l 32 := Or.inl (zmf_32 l)
theorem zpo_33 (l : Launch) : zP_ok l 33 := Or.inl (zmf_33 l)
theorem zpo_34 (l : Launch) : zP_ok l 34 := Or.inl (zmf_34 l)
theorem zpo_35 (l : Launch) : zP_ok l 35 := Or.inl (zmf_35 l)
theorem zpo_36 (l : Launch) : zP_ok l 36 := Or.inl (zmf_36 l)
theorem zpo_37 (l : Launch) : zP_ok l 37 := Or.inr (Or.inl rfl)
theorem zpo_38 (l : Launch) : zP_ok l 38 := Or.inr (Or.inl rfl)
theorem zpo_39 (l : Launch) : zP_ok l 39 := Or.inr (Or.inl rfl)
theorem zpo_40 (l : Launch) : zP_ok l 40 := Or.inr (Or.inl rfl)
theorem zpo_41 (l : Launch) : zP_ok l 41 := Or.inr (Or.inl rfl)
theorem zpo_42 (l : Launch) : zP_ok l 42 := Or.inr (Or.inl rfl)
theorem zpo_43 (l : Launch) : zP_ok l 43 := Or.inr (Or.inl rfl)
theorem zpo_44 (l : Launch) : zP_ok l 44 := Or.inr (Or.inl rfl)
theorem zpo_45 (l : Launch) : zP_ok l 45 := Or.inr (Or.inl rfl)
theorem zpo_46 (l : Launch) : zP_ok l 46 := Or.inr (Or.inl rfl)
theorem zpo_47 (l : Launch) : zP_ok l 47 := Or.inr (Or.inl rfl)
theorem zpo_48 (l : Launch) : zP_ok l 48 := Or.inr (Or.inl rfl)
theorem zpo_49 (l : Launch) : zP_ok l 49 := Or.inl (zmf_49 l)
theorem zpo_50 (l : Launch) : zP_ok l 50 := Or.inl (zmf_50 l)
theorem zpo_51 (l : Launch) : zP_ok l 51 := Or.inl (zmf_51 l)
theorem zpo_52 (l : Launch) : zP_ok l 52 := Or.inl (zmf_52 l)
theorem zpo_53 (l : Launch) : zP_ok l 53 := Or.inl (zmf_53 l)
theorem zpo_54 (l : Launch) : zP_ok l 54 := Or.inl (zmf_54 l)
theorem zpo_55 (l : Launch) : zP_ok l 55 := Or.inl (zmf_55 l)
theorem zpo_56 (l : Launch) : zP_ok l 56 := Or.inl (zmf_56 l)
theorem zpo_57 (l : Launch) : zP_ok l 57 := Or.inl (zmf_57 l)
theorem zpo_58 (l : Launch) : zP_ok l 58 := Or.inl (zmf_58 l)
theorem zpo_59 (l : Launch) : zP_ok l 59 := Or.inl (zmf_59 l)
theorem zpo_60 (l : Launch) : zP_ok l 60 := Or.inl (zmf_60 l)
theorem zpo_61 (l : Launch) : zP_ok l 61 := Or.inl (zmf_61 l)
theorem zpo_62 (l : Launch) : zP_ok l 62 := Or.inl (zmf_62 l)
theorem zpo_63 (l : Launch) : zP_ok l 63 := Or.inl (zmf_63 l)
theorem zpo_64 (l : Launch) : zP_ok l 64 := Or.inl (zmf_64 l)
theorem zpo_65 (l : Launch) : zP_ok l 65 := Or.inl (zmf_65 l)
theorem zpo_66 (l : Launch) : zP_ok l 66 := Or.inl (zmf_66 l)
theorem zpo_67 (l : Launch) : zP_ok l 67 := Or.inr (Or.inr (zchk_ok l zP_67))
theorem zpo_68 (l : Launch) : zP_ok l 68 := Or.inr (Or.inl rfl)
theorem zpo_69 (l : Launch) : zP_ok l 69 := Or.inr (Or.inl rfl)
theorem zpo_70 (l : Launch) : zP_ok l 70 := Or.inr (Or.inl rfl)
theorem zpo_71 (l : Launch) : zP_ok l 71 := Or.inl (zmf_71 l)
theorem zpo_72 (l : Launch) : zP_ok l 72 := Or.inl (zmf_72 l)
theorem zpo_73 (l : Launch) : zP_ok l 73 := Or.inl (zmf_73 l)
theorem zpo_74 (l : Launch) : zP_ok l 74 := Or.inl (zmf_74 l)
theorem zpo_75 (l : Launch) : zP_ok l 75 := Or.inl (zmf_75 l)
theorem zpo_76 (l : Launch) : zP_ok l 76 := Or.inl (zmf_76 l)
theorem zpo_77 (l : Launch) : zP_ok l 77 := Or.inl (zmf_77 l)
theorem zpo_78 (l : Launch) : zP_ok l 78 := Or.inl (zmf_78 l)
theorem zpo_79 (l : Launch) : zP_ok l 79 := Or.inl (zmf_79 l)
theorem zpo_80 (l : Launch) : zP_ok l 80 := Or.inl (zmf_80 l)
theorem zpo_81 (l : Launch) : zP_ok l 81 := Or.inl (zmf_81 l)
theorem zpo_82 (l : Launch) : zP_ok l 82 := Or.inl (zmf_82 l)
theorem zpo_83 (l : Launch) : zP_ok l 83 := Or.inl (zmf_83 l)
theorem zpo_84 (l : Launch) : zP_ok l 84 := Or.inl (zmf_84 l)
theorem zpo_85 (l : Launch) : zP_ok l 85 := Or.inl (zmf_85 l)
theorem zpo_86 (l : Launch) : zP_ok l 86 := Or.inl (zmf_86 l)
theorem zpo_87 (l : Launch) : zP_ok l 87 := Or.inl (zmf_87 l)
theorem zpo_88 (l : Launch) : zP_ok l 88 := Or.inl (zmf_88 l)
theorem zpo_89 (l : Launch) : zP_ok l 89 := Or.inl (zmf_89 l)
theorem zpo_90 (l : Launch) : zP_ok l 90 := Or.inl (zmf_90 l)
theorem zpo_91 (l : Launch) : zP_ok l 91 := Or.inl (zmf_91 l)
theorem zpo_92 (l : Launch) : zP_ok l 92 := Or.inl (zmf_92 l)
theorem zpo_93 (l : Launch) : zP_ok l 93 := Or.inl (zmf_93 l)
theorem zpo_94 (l : Launch) : zP_ok l 94 := Or.inl (zmf_94 l)
theorem zpo_95 (l : Launch) : zP_ok l 95 := Or.inl (zmf_95 l)
theorem zpo_96 (l : Launch) : zP_ok l 96 := Or.inl (zmf_96 l)
theorem zpo_97 (l : Launch) : zP_ok l 97 := Or.inl (zmf_97 l)
theorem zpo_98 (l : Launch) : zP_ok l 98 := Or.inl (zmf_98 l)
theorem zpo_99 (l : Launch) : zP_ok l 99 := Or.inl (zmf_99 l)
theorem zpo_100 (l : Launch) : zP_ok l 100 := Or.inl (zmf_100 l)
theorem zpo_101 (l : Launch) : zP_ok l 101 := Or.inl (zmf_101 l)
theorem zpo_102 (l : Launch) : zP_ok l 102 := Or.inl (zmf_102 l)
theorem zpo_103 (l : Launch) : zP_ok l 103 := Or.inl (zmf_103 l)
theorem zpo_104 (l : Launch) : zP_ok l 104 := Or.inl (zmf_104 l)
theorem zpo_105 (l : Launch) : zP_ok l 105 := Or.inl (zmf_105 l)
theorem zpo_106 (l : Launch) : zP_ok l 106 := Or.inl (zmf_106 l)
theorem zpo_107 (l : Launch) : zP_ok l 107 := Or.inl (zmf_107 l)
theorem zpo_108 (l : Launch) : zP_ok l 108 := Or.inl (zmf_108 l)
theorem zpo_109 (l : Launch) : zP_ok l 109 := Or.inl (zmf_109 l)
theorem zpo_110 (l : Launch) : zP_ok l 110 := Or.inl (zmf_110 l)
theorem zpo_111 (l : Launch) : zP_ok l 111 := Or.inl (zmf_111 l)
theorem zpo_112 (l : Launch) : zP_ok l 112 := Or.inl (zmf_112 l)
theorem zpo_113 (l : Launch) : zP_ok l 113 := Or.inl (zmf_113 l)
theorem zpo_114 (l : Launch) : zP_ok l 114 := Or.inl (zmf_114 l)
theorem zpo_115 (l : Launch) : zP_ok l 115 := Or.inl (zmf_115 l)
theorem zpo_116 (l : Launch) : zP_ok l 116 := Or.inl (zmf_116 l)
theorem zpo_117 (l : Launch) : zP_ok l 117 := Or.inl (zmf_117 l)
theorem zpo_118 (l : Launch) : zP_ok l 118 := Or.inl (zmf_118 l)
theorem zpo_119 (l : Launch) : zP_ok l 119 := Or.inl (zmf_119 l)
theorem zpo_120 (l : Launch) : zP_ok l 120 := Or.inl (zmf_120 l)
theorem zpo_121 (l : Launch) : zP_ok l 121 := Or.inl (zmf_121 l)
theorem zpo_122 (l : Launch) : zP_ok l 122 := Or.inl (zmf_122 l)
theorem zpo_123 (l : Launch) : zP_ok l 123 := Or.inl (zmf_123 l)
theorem zpo_124 (l : Launch) : zP_ok l 124 := Or.inl (zmf_124 l)
theorem zpo_125 (l : Launch) : zP_ok l 125 := Or.inl (zmf_125 l)
theorem zpo_126 (l : Launch) : zP_ok l 126 := Or.inl (zmf_126 l)
theorem zpo_127 (l : Launch) : zP_ok l 127 := Or.inl (zmf_127 l)
theorem zpo_128 (l : Launch) : zP_ok l 128 := Or.inl (zmf_128 l)
theorem zpo_129 (l : Launch) : zP_ok l 129 := Or.inl (zmf_129 l)
theorem zpo_130 (l : Launch) : zP_ok l 130 := Or.inl (zmf_130 l)
theorem zpo_131 (l : Launch) : zP_ok l 131 := Or.inl (zmf_131 l)
theorem zpo_132 (l : Launch) : zP_ok l 132 := Or.inl (zmf_132 l)
theorem zpo_133 (l : Launch) : zP_ok l 133 := Or.inl (zmf_133 l)
theorem zpo_134 (l : Launch) : zP_ok l 134 := Or.inl (zmf_134 l)
theorem zpo_135 (l : Launch) : zP_ok l 135 := Or.inl (zmf_135 l)
theorem zpo_136 (l : Launch) : zP_ok l 136 := Or.inl (zmf_136 l)
theorem zpo_137 (l : Launch) : zP_ok l 137 := Or.inl (zmf_137 l)
theorem zpo_138 (l : Launch) : zP_ok l 138 := Or.inl (zmf_138 l)
theorem zpo_139 (l : Launch) : zP_ok l 139 := Or.inl (zmf_139 l)
theorem zpo_140 (l : Launch) : zP_ok l 140 := Or.inl (zmf_140 l)
theorem zpo_141 (l : Launch) : zP_ok l 141 := Or.inl (zmf_141 l)
theorem zpo_142 (l : Launch) : zP_ok l 142 := Or.inl (zmf_142 l)
theorem zpo_143 (l : Launch) : zP_ok l 143 := Or.inl (zmf_143 l)
theorem zpo_144 (l : Launch) : zP_ok l 144 := Or.inl (zmf_144 l)
theorem zpo_145 (l : Launch) : zP_ok l 145 := Or.inl (zmf_145 l)
theorem zpo_146 (l : Launch) : zP_ok l 146 := Or.inl (zmf_146 l)
theorem zpo_147 (l : Launch) : zP_ok l 147 := Or.inl (zmf_147 l)
theorem zpo_148 (l : Launch) : zP_ok l 148 := Or.inl (zmf_148 l)
theorem zpo_149 (l : Launch) : zP_ok l 149 := Or.inl (zmf_149 l)
theorem zpo_150 (l : Launch) : zP_ok l 150 := Or.inl (zmf_150 l)
theorem zpo_151 (l : Launch) : zP_ok l 151 := Or.inl (zmf_151 l)
theorem zpo_152 (l : Launch) : zP_ok l 152 := Or.inl (zmf_152 l)
theorem zpo_153 (l : Launch) : zP_ok l 153 := Or.inl (zmf_153 l)
theorem zpo_154 (l : Launch) : zP_ok l 154 := Or.inl (zmf_154 l)
theorem zpo_155 (l : Launch) : zP_ok l 155 := Or.inl (zmf_155 l)
theorem zpo_156 (l : Launch) : zP_ok l 156 := Or.inl (zmf_156 l)
theorem zpo_157 (l : Launch) : zP_ok l 157 := Or.inl (zmf_157 l)
theorem zpo_158 (l : Launch) : zP_ok l 158 := Or.inl (zmf_158 l)
theorem zpo_159 (l : Launch) : zP_ok l 159 := Or.inl (zmf_159 l)
theorem zpo_160 (l : Launch) : zP_ok l 160 := Or.inl (zmf_160 l)
theorem zpo_161 (l : Launch) : zP_ok l 161 := Or.inl (zmf_161 l)
theorem zpo_162 (l : Launch) : zP_ok l 162 := Or.inl (zmf_162 l)
theorem zpo_163 (l : Launch) : zP_ok l 163 := Or.inl (zmf_163 l)
theorem zpo_164 (l : Launch) : zP_ok l 164 := Or.inl (zmf_164 l)
theorem zpo_165 (l : Launch) : zP_ok l 165 := Or.inl (zmf_165 l)
theorem zpo_166 (l : Launch) : zP_ok l 166 := Or.inl (zmf_166 l)
theorem zpo_167 (l : Launch) : zP_ok l 167 := Or.inl (zmf_167 l)
theorem zpo_168 (l : Launch) : zP_ok l 168 := Or.inl (zmf_168 l)
theorem zpo_169 (l : Launch) : zP_ok l 169 := Or.inl (zmf_169 l)
theorem zpo_170 (l : Launch) : zP_ok l 170 := Or.inl (zmf_170 l)
theorem zpo_171 (l : Launch) : zP_ok l 171 := Or.inl (zmf_171 l)
theorem zpo_172 (l : Launch) : zP_ok l 172 := Or.inl (zmf_172 l)
theorem zpo_173 (l : Launch) : zP_ok l 173 := Or.inl (zmf_173 l)
theorem zpo_174 (l : Launch) : zP_ok l 174 := Or.inl (zmf_174 l)
theorem zpo_175 (l : Launch) : zP_ok l 175 := Or.inl (zmf_175 l)
theorem zpo_176 (l : Launch) : zP_ok l 176 := Or.inl (zmf_176 l)
theorem zpo_177 (l : Launch) : zP_ok l 177 := Or.inl (zmf_177 l)
theorem zpo_178 (l : Launch) : zP_ok l 178 := Or.inl (zmf_178 l)
theorem zpo_179 (l : Launch) : zP_ok l 179 := Or.inl (zmf_179 l)
theorem zpo_180 (l : Launch) : zP_ok l 180 := Or.inl (zmf_180 l)
theorem zpo_181 (l : Launch) : zP_ok l 181 := Or.inl (zmf_181 l)
theorem zpo_182 (l : Launch) : zP_ok l 182 := Or.inl (zmf_182 l)
theorem zpo_183 (l : Launch) : zP_ok l 183 := Or.inl (zmf_183 l)
theorem zpo_184 (l : Launch) : zP_ok l 184 := Or.inl (zmf_184 l)
theorem zpo_185 (l : Launch) : zP_ok l 185 := Or.inl (zmf_185 l)
theorem zpo_186 (l : Launch) : zP_ok l 186 := Or.inl (zmf_186 l)
theorem zpo_187 (l : Launch) : zP_ok l 187 := Or.inl (zmf_187 l)
theorem zpo_188 (l : Launch) : zP_ok l 188 := Or.inl (zmf_188 l)
theorem zpo_189 (l : Launch) : zP_ok l 189 := Or.inl (zmf_189 l)
theorem zpo_190 (l : Launch) : zP_ok l 190 := Or.inl (zmf_190 l)
theorem zpo_191 (l : Launch) : zP_ok l 191 := Or.inl (zmf_191 l)
theorem zpo_192 (l : Launch) : zP_ok l 192 := Or.inl (zmf_192 l)
theorem zpo_193 (l : Launch) : zP_ok l 193 := Or.inl (zmf_193 l)
theorem zpo_194 (l : Launch) : zP_ok l 194 := Or.inl (zmf_194 l)
theorem zpo_195 (l : Launch) : zP_ok l 195 := Or.inl (zmf_195 l)
theorem zpo_196 (l : Launch) : zP_ok l 196 := Or.inl (zmf_196 l)
theorem zpo_197 (l : Launch) : zP_ok l 197 := Or.inl (zmf_197 l)
theorem zpo_198 (l : Launch) : zP_ok l 198 := Or.inl (zmf_198 l)
theorem zpo_199 (l : Launch) : zP_ok l 199 := Or.inl (zmf_199 l)
theorem zpo_200 (l : Launch) : zP_ok l 200 := Or.inl (zmf_200 l)
theorem zpo_201 (l : Launch) : zP_ok l 201 := Or.inl (zmf_201 l)
theorem zpo_202 (l : Launch) : zP_ok l 202 := Or.inl (zmf_202 l)
theorem zpo_203 (l : Launch) : zP_ok l 203 := Or.inl (zmf_203 l)
theorem zpo_204 (l : Launch) : zP_ok l 204 := Or.inl (zmf_204 l)
theorem zpo_205 (l : Launch) : zP_ok l 205 := Or.inl (zmf_205 l)
theorem zpo_206 (l : Launch) : zP_ok l 206 := Or.inl (zmf_206 l)
theorem zpo_207 (l : Launch) : zP_ok l 207 := Or.inl (zmf_207 l)
theorem zpo_208 (l : Launch) : zP_ok l 208 := Or.inl (zmf_208 l)
theorem zpo_209 (l : Launch) : zP_ok l 209 := Or.inl (zmf_209 l)
theorem zpo_210 (l : Launch) : zP_ok l 210 := Or.inl (zmf_210 l)
theorem zpo_211 (l : Launch) : zP_ok l 211 := Or.inl (zmf_211 l)
theorem zpo_212 (l : Launch) : zP_ok l 212 := Or.inl (zmf_212 l)
theorem zpo_213 (l : Launch) : zP_ok l 213 := Or.inl (zmf_213 l)
theorem zpo_214 (l : Launch) : zP_ok l 214 := Or.inl (zmf_214 l)
theorem zpo_215 (l : Launch) : zP_ok l 215 := Or.inl (zmf_215 l)
theorem zpo_216 (l : Launch) : zP_ok l 216 := Or.inl (zmf_216 l)
theorem zpo_217 (l : Launch) : zP_ok l 217 := Or.inl (zmf_217 l)
theorem zpo_218 (l : Launch) : zP_ok l 218 := Or.inl (zmf_218 l)
theorem zpo_219 (l : Launch) : zP_ok l 219 := Or.inl (zmf_219 l)
theorem zpo_220 (l : Launch) : zP_ok l 220 := Or.inl (zmf_220 l)
theorem zpo_221 (l : Launch) : zP_ok l 221 := Or.inl (zmf_221 l)
theorem zpo_222 (l : Launch) : zP_ok l 222 := Or.inl (zmf_222 l)
theorem zpo_223 (l : Launch) : zP_ok l 223 := Or.inl (zmf_223 l)
theorem zpo_224 (l : Launch) : zP_ok l 224 := Or.inl (zmf_224 l)
theorem zpo_225 (l : Launch) : zP_ok l 225 := Or.inl (zmf_225 l)
theorem zpo_226 (l : Launch) : zP_ok l 226 := Or.inl (zmf_226 l)
theorem zpo_227 (l : Launch) : zP_ok l 227 := Or.inl (zmf_227 l)
theorem zpo_228 (l : Launch) : zP_ok l 228 := Or.inl (zmf_228 l)
theorem zpo_229 (l : Launch) : zP_ok l 229 := Or.inl (zmf_229 l)
theorem zpo_230 (l : Launch) : zP_ok l 230 := Or.inl (zmf_230 l)
theorem zpo_231 (l : Launch) : zP_ok l 231 := Or.inl (zmf_231 l)
theorem zpo_232 (l : Launch) : zP_ok l 232 := Or.inl (zmf_232 l)
theorem zpo_233 (l : Launch) : zP_ok l 233 := Or.inl (zmf_233 l)
theorem zpo_234 (l : Launch) : zP_ok l 234 := Or.inl (zmf_234 l)
theorem zpo_235 (l : Launch) : zP_ok l 235 := Or.inl (zmf_235 l)
theorem zpo_236 (l : Launch) : zP_ok l 236 := Or.inl (zmf_236 l)
theorem zpo_237 (l : Launch) : zP_ok l 237 := Or.inl (zmf_237 l)
theorem zpo_238 (l : Launch) : zP_ok l 238 := Or.inl (zmf_238 l)
theorem zpo_239 (l : Launch) : zP_ok l 239 := Or.inl (zmf_239 l)
theorem zpo_240 (l : Launch) : zP_ok l 240 := Or.inl (zmf_240 l)
theorem zpo_241 (l : Launch) : zP_ok l 241 := Or.inl (zmf_241 l)
theorem zpo_242 (l : Launch) : zP_ok l 242 := Or.inl (zmf_242 l)
theorem zpo_243 (l : Launch) : zP_ok l 243 := Or.inl (zmf_243 l)
theorem zpo_244 (l : Launch) : zP_ok l 244 := Or.inl (zmf_244 l)
theorem zpo_245 (l : Launch) : zP_ok l 245 := Or.inl (zmf_245 l)
theorem zpo_246 (l : Launch) : zP_ok l 246 := Or.inl (zmf_246 l)
theorem zpo_247 (l : Launch) : zP_ok l 247 := Or.inl (zmf_247 l)
theorem zpo_248 (l : Launch) : zP_ok l 248 := Or.inl (zmf_248 l)
theorem zpo_249 (l : Launch) : zP_ok l 249 := Or.inl (zmf_249 l)
theorem zpo_250 (l : Launch) : zP_ok l 250 := Or.inl (zmf_250 l)
theorem zpo_251 (l : Launch) : zP_ok l 251 := Or.inl (zmf_251 l)
theorem zpo_252 (l : Launch) : zP_ok l 252 := Or.inl (zmf_252 l)
theorem zpo_253 (l : Launch) : zP_ok l 253 := Or.inl (zmf_253 l)
theorem zpo_254 (l : Launch) : zP_ok l 254 := Or.inl (zmf_254 l)
theorem zpo_255 (l : Launch) : zP_ok l 255 := Or.inl (zmf_255 l)
theorem zpo_256 (l : Launch) : zP_ok l 256 := Or.inl (zmf_256 l)
theorem zpo_257 (l : Launch) : zP_ok l 257 := Or.inl (zmf_257 l)
theorem zpo_258 (l : Launch) : zP_ok l 258 := Or.inl (zmf_258 l)
theorem zpo_259 (l : Launch) : zP_ok l 259 := Or.inl (zmf_259 l)
theorem zpo_260 (l : Launch) : zP_ok l 260 := Or.inl (zmf_260 l)
theorem zpo_261 (l : Launch) : zP_ok l 261 := Or.inl (zmf_261 l)
theorem zpo_262 (l : Launch) : zP_ok l 262 := Or.inl (zmf_262 l)
theorem zpo_263 (l : Launch) : zP_ok l 263 := Or.inl (zmf_263 l)
theorem zpo_264 (l : Launch) : zP_ok l 264 := Or.inl (zmf_264 l)
theorem zpo_265 (l : Launch) : zP_ok l 265 := Or.inl (zmf_265 l)
theorem zpo_266 (l : Launch) : zP_ok l 266 := Or.inl (zmf_266 l)
theorem zpo_267 (l : Launch) : zP_ok l 267 := Or.inl (zmf_267 l)
theorem zpo_268 (l : Launch) : zP_ok l 268 := Or.inl (zmf_268 l)
theorem zpo_269 (l : Launch) : zP_ok l 269 := Or.inl (zmf_269 l)
theorem zpo_270 (l : Launch) : zP_ok l 270 := Or.inl (zmf_270 l)
theorem zpo_271 (l : Launch) : zP_ok l 271 := Or.inl (zmf_271 l)
theorem zpo_272 (l : Launch) : zP_ok l 272 := Or.inl (zmf_272 l)
theorem zpo_273 (l : Launch) : zP_ok l 273 := Or.inl (zmf_273 l)
theorem zpo_274 (l : Launch) : zP_ok l 274 := Or.inl (zmf_274 l)
theorem zpo_275 (l : Launch) : zP_ok l 275 := Or.inl (zmf_275 l)
theorem zpo_276 (l : Launch) : zP_ok l 276 := Or.inl (zmf_276 l)
theorem zpo_277 (l : Launch) : zP_ok l 277 := Or.inl (zmf_277 l)
theorem zpo_278 (l : Launch) : zP_ok l 278 := Or.inl (zmf_278 l)
theorem zpo_279 (l : Launch) : zP_ok l 279 := Or.inl (zmf_279 l)
theorem zpo_280 (l : Launch) : zP_ok l 280 := Or.inl (zmf_280 l)
theorem zpo_281 (l : Launch) : zP_ok l 281 := Or.inl (zmf_281 l)
theorem zpo_282 (l : Launch) : zP_ok l 282 := Or.inl (zmf_282 l)
theorem zpo_283 (l : Launch) : zP_ok l 283 := Or.inl (zmf_283 l)
theorem zpo_284 (l : Launch) : zP_ok l 284 := Or.inl (zmf_284 l)
theorem zpo_285 (l : Launch) : zP_ok l 285 := Or.inl (zmf_285 l)
theorem zpo_286 (l : Launch) : zP_ok l 286 := Or.inl (zmf_286 l)
theorem zpo_287 (l : Launch) : zP_ok l 287 := Or.inl (zmf_287 l)
theorem zpo_288 (l : Launch) : zP_ok l 288 := Or.inl (zmf_288 l)
theorem zpo_289 (l : Launch) : zP_ok l 289 := Or.inl (zmf_289 l)
theorem zpo_290 (l : Launch) : zP_ok l 290 := Or.inl (zmf_290 l)
theorem zpo_291 (l : Launch) : zP_ok l 291 := Or.inl (zmf_291 l)
theorem zpo_292 (l : Launch) : zP_ok l 292 := Or.inl (zmf_292 l)
theorem zpo_293 (l : Launch) : zP_ok l 293 := Or.inl (zmf_293 l)
theorem zpo_294 (l : Launch) : zP_ok l 294 := Or.inl (zmf_294 l)
theorem zpo_295 (l : Launch) : zP_ok l 295 := Or.inl (zmf_295 l)
theorem zpo_296 (l : Launch) : zP_ok l 296 := Or.inl (zmf_296 l)
theorem zpo_297 (l : Launch) : zP_ok l 297 := Or.inl (zmf_297 l)
theorem zpo_298 (l : Launch) : zP_ok l 298 := Or.inl (zmf_298 l)
theorem zpo_299 (l : Launch) : zP_ok l 299 := Or.inl (zmf_299 l)
theorem zpo_300 (l : Launch) : zP_ok l 300 := Or.inl (zmf_300 l)
theorem zpo_301 (l : Launch) : zP_ok l 301 := Or.inl (zmf_301 l)
theorem zpo_302 (l : Launch) : zP_ok l 302 := Or.inl (zmf_302 l)
theorem zpo_303 (l : Launch) : zP_ok l 303 := Or.inl (zmf_303 l)
theorem zpo_lt (l : Launch) : ∀ y, y < 304 → zP_ok l y := by
  intro y h
  rcases Nat.lt_or_ge y 152 with h152 | h152
  · rcases Nat.lt_or_ge y 76 with h76 | h76
    · rcases Nat.lt_or_ge y 38 with h38 | h38
      · rcases Nat.lt_or_ge y 19 with h19 | h19
        · rcases Nat.lt_or_ge y 9 with h9 | h9
          · rcases Nat.lt_or_ge y 4 with h4 | h4
            · rcases Nat.lt_or_ge y 2 with h2 | h2
              · rcases Nat.lt_or_ge y 1 with h1 | h1
                · have e : y = 0 := by omega
                  subst e
                  exact zpo_0 l
                · have e : y = 1 := by omega
                  subst e
                  exact zpo_1 l
              · rcases Nat.lt_or_ge y 3 with h3 | h3
                · have e : y = 2 := by omega
                  subst e
                  exact zpo_2 l
                · have e : y = 3 := by omega
                  subst e
                  exact zpo_3 l
            · rcases Nat.lt_or_ge y 6 with h6 | h6
              · rcases Nat.lt_or_ge y 5 with h5 | h5
                · have e : y = 4 := by omega
                  subst e
                  exact zpo_4 l
                · have e : y = 5 := by omega
                  subst e
                  exact zpo_5 l
              · rcases Nat.lt_or_ge y 7 with h7 | h7
                · have e : y = 6 := by omega
                  subst e
                  exact zpo_6 l
                · rcases Nat.lt_or_ge y 8 with h8 | h8
                  · have e : y = 7 := by omega
                    subst e
                    exact zpo_7 l
                  · have e : y = 8 := by omega
                    subst e
                    exact zpo_8 l
          · rcases Nat.lt_or_ge y 14 with h14 | h14
            · rcases Nat.lt_or_ge y 11 with h11 | h11
              · rcases Nat.lt_or_ge y 10 with h10 | h10
                · have e : y = 9 := by omega
                  subst e
                  exact zpo_9 l
                · have e : y = 10 := by omega
                  subst e
                  exact zpo_10 l
              · rcases Nat.lt_or_ge y 12 with h12 | h12
                · have e : y = 11 := by omega
                  subst e
                  exact zpo_11 l
                · rcases Nat.lt_or_ge y 13 with h13 | h13
                  · have e : y = 12 := by omega
                    subst e
                    exact zpo_12 l
                  · have e : y = 13 := by omega
                    subst e
                    exact zpo_13 l
            · rcases Nat.lt_or_ge y 16 with h16 | h16
              · rcases Nat.lt_or_ge y 15 with h15 | h15
                · have e : y = 14 := by omega
                  subst e
                  exact zpo_14 l
                · have e : y = 15 := by omega
                  subst e
                  exact zpo_15 l
              · rcases Nat.lt_or_ge y 17 with h17 | h17
                · have e : y = 16 := by omega
                  subst e
                  exact zpo_16 l
                · rcases Nat.lt_or_ge y 18 with h18 | h18
                  · have e : y = 17 := by omega
                    subst e
                    exact zpo_17 l
                  · have e : y = 18 := by omega
                    subst e
                    exact zpo_18 l
        · rcases Nat.lt_or_ge y 28 with h28 | h28
          · rcases Nat.lt_or_ge y 23 with h23 | h23
            · rcases Nat.lt_or_ge y 21 with h21 | h21
              · rcases Nat.lt_or_ge y 20 with h20 | h20
                · have e : y = 19 := by omega
                  subst e
                  exact zpo_19 l
                · have e : y = 20 := by omega
                  subst e
                  exact zpo_20 l
              · rcases Nat.lt_or_ge y 22 with h22 | h22
                · have e : y = 21 := by omega
                  subst e
                  exact zpo_21 l
                · have e : y = 22 := by omega
                  subst e
                  exact zpo_22 l
            · rcases Nat.lt_or_ge y 25 with h25 | h25
              · rcases Nat.lt_or_ge y 24 with h24 | h24
                · have e : y = 23 := by omega
                  subst e
                  exact zpo_23 l
                · have e : y = 24 := by omega
                  subst e
                  exact zpo_24 l
              · rcases Nat.lt_or_ge y 26 with h26 | h26
                · have e : y = 25 := by omega
                  subst e
                  exact zpo_25 l
                · rcases Nat.lt_or_ge y 27 with h27 | h27
                  · have e : y = 26 := by omega
                    subst e
                    exact zpo_26 l
                  · have e : y = 27 := by omega
                    subst e
                    exact zpo_27 l
          · rcases Nat.lt_or_ge y 33 with h33 | h33
            · rcases Nat.lt_or_ge y 30 with h30 | h30
              · rcases Nat.lt_or_ge y 29 with h29 | h29
                · have e : y = 28 := by omega
                  subst e
                  exact zpo_28 l
                · have e : y = 29 := by omega
                  subst e
                  exact zpo_29 l
              · rcases Nat.lt_or_ge y 31 with h31 | h31
                · have e : y = 30 := by omega
                  subst e
                  exact zpo_30 l
                · rcases Nat.lt_or_ge y 32 with h32 | h32
                  · have e : y = 31 := by omega
                    subst e
                    exact zpo_31 l
                  · have e : y = 32 := by omega
                    subst e
                    exact zpo_32 l
            · rcases Nat.lt_or_ge y 35 with h35 | h35
              · rcases Nat.lt_or_ge y 34 with h34 | h34
                · have e : y = 33 := by omega
                  subst e
                  exact zpo_33 l
                · have e : y = 34 := by omega
                  subst e
                  exact zpo_34 l
              · rcases Nat.lt_or_ge y 36 with h36 | h36
                · have e : y = 35 := by omega
                  subst e
                  exact zpo_35 l
                · rcases Nat.lt_or_ge y 37 with h37 | h37
                  · have e : y = 36 := by omega
                    subst e
                    exact zpo_36 l
                  · have e : y = 37 := by omega
                    subst e
                    exact zpo_37 l
      · rcases Nat.lt_or_ge y 57 with h57 | h57
        · rcases Nat.lt_or_ge y 47 with h47 | h47
          · rcases Nat.lt_or_ge y 42 with h42 | h42
            · rcases Nat.lt_or_ge y 40 with h40 | h40
              · rcases Nat.lt_or_ge y 39 with h39 | h39
                · have e : y = 38 := by omega
                  subst e
                  exact zpo_38 l
                · have e : y = 39 := by omega
                  subst e
                  exact zpo_39 l
              · rcases Nat.lt_or_ge y 41 with h41 | h41
                · have e : y = 40 := by omega
                  subst e
                  exact zpo_40 l
                · have e : y = 41 := by omega
                  subst e
                  exact zpo_41 l
            · rcases Nat.lt_or_ge y 44 with h44 | h44
              · rcases Nat.lt_or_ge y 43 with h43 | h43
                · have e : y = 42 := by omega
                  subst e
                  exact zpo_42 l
                · have e : y = 43 := by omega
                  subst e
                  exact zpo_43 l
              · rcases Nat.lt_or_ge y 45 with h45 | h45
                · have e : y = 44 := by omega
                  subst e
                  exact zpo_44 l
                · rcases Nat.lt_or_ge y 46 with h46 | h46
                  · have e : y = 45 := by omega
                    subst e
                    exact zpo_45 l
                  · have e : y = 46 := by omega
                    subst e
                    exact zpo_46 l
          · rcases Nat.lt_or_ge y 52 with h52 | h52
            · rcases Nat.lt_or_ge y 49 with h49 | h49
              · rcases Nat.lt_or_ge y 48 with h48 | h48
                · have e : y = 47 := by omega
                  subst e
                  exact zpo_47 l
                · have e : y = 48 := by omega
                  subst e
                  exact zpo_48 l
              · rcases Nat.lt_or_ge y 50 with h50 | h50
                · have e : y = 49 := by omega
                  subst e
                  exact zpo_49 l
                · rcases Nat.lt_or_ge y 51 with h51 | h51
                  · have e : y = 50 := by omega
                    subst e
                    exact zpo_50 l
                  · have e : y = 51 := by omega
                    subst e
                    exact zpo_51 l
            · rcases Nat.lt_or_ge y 54 with h54 | h54
              · rcases Nat.lt_or_ge y 53 with h53 | h53
                · have e : y = 52 := by omega
                  subst e
                  exact zpo_52 l
                · have e : y = 53 := by omega
                  subst e
                  exact zpo_53 l
              · rcases Nat.lt_or_ge y 55 with h55 | h55
                · have e : y = 54 := by omega
                  subst e
                  exact zpo_54 l
                · rcases Nat.lt_or_ge y 56 with h56 | h56
                  · have e : y = 55 := by omega
                    subst e
                    exact zpo_55 l
                  · have e : y = 56 := by omega
                    subst e
                    exact zpo_56 l
        · rcases Nat.lt_or_ge y 66 with h66 | h66
          · rcases Nat.lt_or_ge y 61 with h61 | h61
            · rcases Nat.lt_or_ge y 59 with h59 | h59
              · rcases Nat.lt_or_ge y 58 with h58 | h58
                · have e : y = 57 := by omega
                  subst e
                  exact zpo_57 l
                · have e : y = 58 := by omega
                  subst e
                  exact zpo_58 l
              · rcases Nat.lt_or_ge y 60 with h60 | h60
                · have e : y = 59 := by omega
                  subst e
                  exact zpo_59 l
                · have e : y = 60 := by omega
                  subst e
                  exact zpo_60 l
            · rcases Nat.lt_or_ge y 63 with h63 | h63
              · rcases Nat.lt_or_ge y 62 with h62 | h62
                · have e : y = 61 := by omega
                  subst e
                  exact zpo_61 l
                · have e : y = 62 := by omega
                  subst e
                  exact zpo_62 l
              · rcases Nat.lt_or_ge y 64 with h64 | h64
                · have e : y = 63 := by omega
                  subst e
                  exact zpo_63 l
                · rcases Nat.lt_or_ge y 65 with h65 | h65
                  · have e : y = 64 := by omega
                    subst e
                    exact zpo_64 l
                  · have e : y = 65 := by omega
                    subst e
                    exact zpo_65 l
          · rcases Nat.lt_or_ge y 71 with h71 | h71
            · rcases Nat.lt_or_ge y 68 with h68 | h68
              · rcases Nat.lt_or_ge y 67 with h67 | h67
                · have e : y = 66 := by omega
                  subst e
                  exact zpo_66 l
                · have e : y = 67 := by omega
                  subst e
                  exact zpo_67 l
              · rcases Nat.lt_or_ge y 69 with h69 | h69
                · have e : y = 68 := by omega
                  subst e
                  exact zpo_68 l
                · rcases Nat.lt_or_ge y 70 with h70 | h70
                  · have e : y = 69 := by omega
                    subst e
                    exact zpo_69 l
                  · have e : y = 70 := by omega
                    subst e
                    exact zpo_70 l
            · rcases Nat.lt_or_ge y 73 with h73 | h73
              · rcases Nat.lt_or_ge y 72 with h72 | h72
                · have e : y = 71 := by omega
                  subst e
                  exact zpo_71 l
                · have e : y = 72 := by omega
                  subst e
                  exact zpo_72 l
              · rcases Nat.lt_or_ge y 74 with h74 | h74
                · have e : y = 73 := by omega
                  subst e
                  exact zpo_73 l
                · rcases Nat.lt_or_ge y 75 with h75 | h75
                  · have e : y = 74 := by omega
                    subst e
                    exact zpo_74 l
                  · have e : y = 75 := by omega
                    subst e
                    exact zpo_75 l
    · rcases Nat.lt_or_ge y 114 with h114 | h114
      · rcases Nat.lt_or_ge y 95 with h95 | h95
        · rcases Nat.lt_or_ge y 85 with h85 | h85
          · rcases Nat.lt_or_ge y 80 with h80 | h80
            · rcases Nat.lt_or_ge y 78 with h78 | h78
              · rcases Nat.lt_or_ge y 77 with h77 | h77
                · have e : y = 76 := by omega
                  subst e
                  exact zpo_76 l
                · have e : y = 77 := by omega
                  subst e
                  exact zpo_77 l
              · rcases Nat.lt_or_ge y 79 with h79 | h79
                · have e : y = 78 := by omega
                  subst e
                  exact zpo_78 l
                · have e : y = 79 := by omega
                  subst e
                  exact zpo_79 l
            · rcases Nat.lt_or_ge y 82 with h82 | h82
              · rcases Nat.lt_or_ge y 81 with h81 | h81
                · have e : y = 80 := by omega
                  subst e
                  exact zpo_80 l
                · have e : y = 81 := by omega
                  subst e
                  exact zpo_81 l
              · rcases Nat.lt_or_ge y 83 with h83 | h83
                · have e : y = 82 := by omega
                  subst e
                  exact zpo_82 l
                · rcases Nat.lt_or_ge y 84 with h84 | h84
                  · have e : y = 83 := by omega
                    subst e
                    exact zpo_83 l
                  · have e : y = 84 := by omega
                    subst e
                    exact zpo_84 l
          · rcases Nat.lt_or_ge y 90 with h90 | h90
            · rcases Nat.lt_or_ge y 87 with h87 | h87
              · rcases Nat.lt_or_ge y 86 with h86 | h86
                · have e : y = 85 := by omega
                  subst e
                  exact zpo_85 l
                · have e : y = 86 := by omega
                  subst e
                  exact zpo_86 l
              · rcases Nat.lt_or_ge y 88 with h88 | h88
                · have e : y = 87 := by omega
                  subst e
                  exact zpo_87 l
                · rcases Nat.lt_or_ge y 89 with h89 | h89
                  · have e : y = 88 := by omega
                    subst e
                    exact zpo_88 l
                  · have e : y = 89 := by omega
                    subst e
                    exact zpo_89 l
            · rcases Nat.lt_or_ge y 92 with h92 | h92
              · rcases Nat.lt_or_ge y 91 with h91 | h91
                · have e : y = 90 := by omega
                  subst e
                  exact zpo_90 l
                · have e : y = 91 := by omega
                  subst e
                  exact zpo_91 l
              · rcases Nat.lt_or_ge y 93 with h93 | h93
                · have e : y = 92 := by omega
                  subst e
                  exact zpo_92 l
                · rcases Nat.lt_or_ge y 94 with h94 | h94
                  · have e : y = 93 := by omega
                    subst e
                    exact zpo_93 l
                  · have e : y = 94 := by omega
                    subst e
                    exact zpo_94 l
        · rcases Nat.lt_or_ge y 104 with h104 | h104
          · rcases Nat.lt_or_ge y 99 with h99 | h99
            · rcases Nat.lt_or_ge y 97 with h97 | h97
              · rcases Nat.lt_or_ge y 96 with h96 | h96
                · have e : y = 95 := by omega
                  subst e
                  exact zpo_95 l
                · have e : y = 96 := by omega
                  subst e
                  exact zpo_96 l
              · rcases Nat.lt_or_ge y 98 with h98 | h98
                · have e : y = 97 := by omega
                  subst e
                  exact zpo_97 l
                · have e : y = 98 := by omega
                  subst e
                  exact zpo_98 l
            · rcases Nat.lt_or_ge y 101 with h101 | h101
              · rcases Nat.lt_or_ge y 100 with h100 | h100
                · have e : y = 99 := by omega
                  subst e
                  exact zpo_99 l
                · have e : y = 100 := by omega
                  subst e
                  exact zpo_100 l
              · rcases Nat.lt_or_ge y 102 with h102 | h102
                · have e : y = 101 := by omega
                  subst e
                  exact zpo_101 l
                · rcases Nat.lt_or_ge y 103 with h103 | h103
                  · have e : y = 102 := by omega
                    subst e
                    exact zpo_102 l
                  · have e : y = 103 := by omega
                    subst e
                    exact zpo_103 l
          · rcases Nat.lt_or_ge y 109 with h109 | h109
            · rcases Nat.lt_or_ge y 106 with h106 | h106
              · rcases Nat.lt_or_ge y 105 with h105 | h105
                · have e : y = 104 := by omega
                  subst e
                  exact zpo_104 l
                · have e : y = 105 := by omega
                  subst e
                  exact zpo_105 l
              · rcases Nat.lt_or_ge y 107 with h107 | h107
                · have e : y = 106 := by omega
                  subst e
                  exact zpo_106 l
                · rcases Nat.lt_or_ge y 108 with h108 | h108
                  · have e : y = 107 := by omega
                    subst e
                    exact zpo_107 l
                  · have e : y = 108 := by omega
                    subst e
                    exact zpo_108 l
            · rcases Nat.lt_or_ge y 111 with h111 | h111
              · rcases Nat.lt_or_ge y 110 with h110 | h110
                · have e : y = 109 := by omega
                  subst e
                  exact zpo_109 l
                · have e : y = 110 := by omega
                  subst e
                  exact zpo_110 l
              · rcases Nat.lt_or_ge y 112 with h112 | h112
                · have e : y = 111 := by omega
                  subst e
                  exact zpo_111 l
                · rcases Nat.lt_or_ge y 113 with h113 | h113
                  · have e : y = 112 := by omega
                    subst e
                    exact zpo_112 l
                  · have e : y = 113 := by omega
                    subst e
                    exact zpo_113 l
      · rcases Nat.lt_or_ge y 133 with h133 | h133
        · rcases Nat.lt_or_ge y 123 with h123 | h123
          · rcases Nat.lt_or_ge y 118 with h118 | h118
            · rcases Nat.lt_or_ge y 116 with h116 | h116
              · rcases Nat.lt_or_ge y 115 with h115 | h115
                · have e : y = 114 := by omega
                  subst e
                  exact zpo_114 l
                · have e : y = 115 := by omega
                  subst e
                  exact zpo_115 l
              · rcases Nat.lt_or_ge y 117 with h117 | h117
                · have e : y = 116 := by omega
                  subst e
                  exact zpo_116 l
                · have e : y = 117 := by omega
                  subst e
                  exact zpo_117 l
            · rcases Nat.lt_or_ge y 120 with h120 | h120
              · rcases Nat.lt_or_ge y 119 with h119 | h119
                · have e : y = 118 := by omega
                  subst e
                  exact zpo_118 l
                · have e : y = 119 := by omega
                  subst e
                  exact zpo_119 l
              · rcases Nat.lt_or_ge y 121 with h121 | h121
                · have e : y = 120 := by omega
                  subst e
                  exact zpo_120 l
                · rcases Nat.lt_or_ge y 122 with h122 | h122
                  · have e : y = 121 := by omega
                    subst e
                    exact zpo_121 l
                  · have e : y = 122 := by omega
                    subst e
                    exact zpo_122 l
          · rcases Nat.lt_or_ge y 128 with h128 | h128
            · rcases Nat.lt_or_ge y 125 with h125 | h125
              · rcases Nat.lt_or_ge y 124 with h124 | h124
                · have e : y = 123 := by omega
                  subst e
                  exact zpo_123 l
                · have e : y = 124 := by omega
                  subst e
                  exact zpo_124 l
              · rcases Nat.lt_or_ge y 126 with h126 | h126
                · have e : y = 125 := by omega
                  subst e
                  exact zpo_125 l
                · rcases Nat.lt_or_ge y 127 with h127 | h127
                  · have e : y = 126 := by omega
                    subst e
                    exact zpo_126 l
                  · have e : y = 127 := by omega
                    subst e
                    exact zpo_127 l
            · rcases Nat.lt_or_ge y 130 with h130 | h130
              · rcases Nat.lt_or_ge y 129 with h129 | h129
                · have e : y = 128 := by omega
                  subst e
                  exact zpo_128 l
                · have e : y = 129 := by omega
                  subst e
                  exact zpo_129 l
              · rcases Nat.lt_or_ge y 131 with h131 | h131
                · have e : y = 130 := by omega
                  subst e
                  exact zpo_130 l
                · rcases Nat.lt_or_ge y 132 with h132 | h132
                  · have e : y = 131 := by omega
                    subst e
                    exact zpo_131 l
                  · have e : y = 132 := by omega
                    subst e
                    exact zpo_132 l
        · rcases Nat.lt_or_ge y 142 with h142 | h142
          · rcases Nat.lt_or_ge y 137 with h137 | h137
            · rcases Nat.lt_or_ge y 135 with h135 | h135
              · rcases Nat.lt_or_ge y 134 with h134 | h134
                · have e : y = 133 := by omega
                  subst e
                  exact zpo_133 l
                · have e : y = 134 := by omega
                  subst e
                  exact zpo_134 l
              · rcases Nat.lt_or_ge y 136 with h136 | h136
                · have e : y = 135 := by omega
                  subst e
                  exact zpo_135 l
                · have e : y = 136 := by omega
                  subst e
                  exact zpo_136 l
            · rcases Nat.lt_or_ge y 139 with h139 | h139
              · rcases Nat.lt_or_ge y 138 with h138 | h138
                · have e : y = 137 := by omega
                  subst e
                  exact zpo_137 l
                · have e : y = 138 := by omega
                  subst e
                  exact zpo_138 l
              · rcases Nat.lt_or_ge y 140 with h140 | h140
                · have e : y = 139 := by omega
                  subst e
                  exact zpo_139 l
                · rcases Nat.lt_or_ge y 141 with h141 | h141
                  · have e : y = 140 := by omega
                    subst e
                    exact zpo_140 l
                  · have e : y = 141 := by omega
                    subst e
                    exact zpo_141 l
          · rcases Nat.lt_or_ge y 147 with h147 | h147
            · rcases Nat.lt_or_ge y 144 with h144 | h144
              · rcases Nat.lt_or_ge y 143 with h143 | h143
                · have e : y = 142 := by omega
                  subst e
                  exact zpo_142 l
                · have e : y = 143 := by omega
                  subst e
                  exact zpo_143 l
              · rcases Nat.lt_or_ge y 145 with h145 | h145
                · have e : y = 144 := by omega
                  subst e
                  exact zpo_144 l
                · rcases Nat.lt_or_ge y 146 with h146 | h146
                  · have e : y = 145 := by omega
                    subst e
                    exact zpo_145 l
                  · have e : y = 146 := by omega
                    subst e
                    exact zpo_146 l
            · rcases Nat.lt_or_ge y 149 with h149 | h149
              · rcases Nat.lt_or_ge y 148 with h148 | h148
                · have e : y = 147 := by omega
                  subst e
                  exact zpo_147 l
                · have e : y = 148 := by omega
                  subst e
                  exact zpo_148 l
              · rcases Nat.lt_or_ge y 150 with h150 | h150
                · have e : y = 149 := by omega
                  subst e
                  exact zpo_149 l
                · rcases Nat.lt_or_ge y 151 with h151 | h151
                  · have e : y = 150 := by omega
                    subst e
                    exact zpo_150 l
                  · have e : y = 151 := by omega
                    subst e
                    exact zpo_151 l
  · rcases Nat.lt_or_ge y 228 with h228 | h228
    · rcases Nat.lt_or_ge y 190 with h190 | h190
      · rcases Nat.lt_or_ge y 171 with h171 | h171
        · rcases Nat.lt_or_ge y 161 with h161 | h161
          · rcases Nat.lt_or_ge y 156 with h156 | h156
            · rcases Nat.lt_or_ge y 154 with h154 | h154
              · rcases Nat.lt_or_ge y 153 with h153 | h153
                · have e : y = 152 := by omega
                  subst e
                  exact zpo_152 l
                · have e : y = 153 := by omega
                  subst e
                  exact zpo_153 l
              · rcases Nat.lt_or_ge y 155 with h155 | h155
                · have e : y = 154 := by omega
                  subst e
                  exact zpo_154 l
                · have e : y = 155 := by omega
                  subst e
                  exact zpo_155 l
            · rcases Nat.lt_or_ge y 158 with h158 | h158
              · rcases Nat.lt_or_ge y 157 with h157 | h157
                · have e : y = 156 := by omega
                  subst e
                  exact zpo_156 l
                · have e : y = 157 := by omega
                  subst e
                  exact zpo_157 l
              · rcases Nat.lt_or_ge y 159 with h159 | h159
                · have e : y = 158 := by omega
                  subst e
                  exact zpo_158 l
                · rcases Nat.lt_or_ge y 160 with h160 | h160
                  · have e : y = 159 := by omega
                    subst e
                    exact zpo_159 l
                  · have e : y = 160 := by omega
                    subst e
                    exact zpo_160 l
          · rcases Nat.lt_or_ge y 166 with h166 | h166
            · rcases Nat.lt_or_ge y 163 with h163 | h163
              · rcases Nat.lt_or_ge y 162 with h162 | h162
                · have e : y = 161 := by omega
                  subst e
                  exact zpo_161 l
                · have e : y = 162 := by omega
                  subst e
                  exact zpo_162 l
              · rcases Nat.lt_or_ge y 164 with h164 | h164
                · have e : y = 163 := by omega
                  subst e
                  exact zpo_163 l
                · rcases Nat.lt_or_ge y 165 with h165 | h165
                  · have e : y = 164 := by omega
                    subst e
                    exact zpo_164 l
                  · have e : y = 165 := by omega
                    subst e
                    exact zpo_165 l
            · rcases Nat.lt_or_ge y 168 with h168 | h168
              · rcases Nat.lt_or_ge y 167 with h167 | h167
                · have e : y = 166 := by omega
                  subst e
                  exact zpo_166 l
                · have e : y = 167 := by omega
                  subst e
                  exact zpo_167 l
              · rcases Nat.lt_or_ge y 169 with h169 | h169
                · have e : y = 168 := by omega
                  subst e
                  exact zpo_168 l
                · rcases Nat.lt_or_ge y 170 with h170 | h170
                  · have e : y = 169 := by omega
                    subst e
                    exact zpo_169 l
                  · have e : y = 170 := by omega
                    subst e
                    exact zpo_170 l
        · rcases Nat.lt_or_ge y 180 with h180 | h180
          · rcases Nat.lt_or_ge y 175 with h175 | h175
            · rcases Nat.lt_or_ge y 173 with h173 | h173
              · rcases Nat.lt_or_ge y 172 with h172 | h172
                · have e : y = 171 := by omega
                  subst e
                  exact zpo_171 l
                · have e : y = 172 := by omega
                  subst e
                  exact zpo_172 l
              · rcases Nat.lt_or_ge y 174 with h174 | h174
                · have e : y = 173 := by omega
                  subst e
                  exact zpo_173 l
                · have e : y = 174 := by omega
                  subst e
                  exact zpo_174 l
            · rcases Nat.lt_or_ge y 177 with h177 | h177
              · rcases Nat.lt_or_ge y 176 with h176 | h176
                · have e : y = 175 := by omega
                  subst e
                  exact zpo_175 l
                · have e : y = 176 := by omega
                  subst e
                  exact zpo_176 l
              · rcases Nat.lt_or_ge y 178 with h178 | h178
                · have e : y = 177 := by omega
                  subst e
                  exact zpo_177 l
                · rcases Nat.lt_or_ge y 179 with h179 | h179
                  · have e : y = 178 := by omega
                    subst e
                    exact zpo_178 l
                  · have e : y = 179 := by omega
                    subst e
                    exact zpo_179 l
          · rcases Nat.lt_or_ge y 185 with h185 | h185
            · rcases Nat.lt_or_ge y 182 with h182 | h182
              · rcases Nat.lt_or_ge y 181 with h181 | h181
                · have e : y = 180 := by omega
                  subst e
                  exact zpo_180 l
                · have e : y = 181 := by omega
                  subst e
                  exact zpo_181 l
              · rcases Nat.lt_or_ge y 183 with h183 | h183
                · have e : y = 182 := by omega
                  subst e
                  exact zpo_182 l
                · rcases Nat.lt_or_ge y 184 with h184 | h184
                  · have e : y = 183 := by omega
                    subst e
                    exact zpo_183 l
                  · have e : y = 184 := by omega
                    subst e
                    exact zpo_184 l
            · rcases Nat.lt_or_ge y 187 with h187 | h187
              · rcases Nat.lt_or_ge y 186 with h186 | h186
                · have e : y = 185 := by omega
                  subst e
                  exact zpo_185 l
                · have e : y = 186 := by omega
                  subst e
                  exact zpo_186 l
              · rcases Nat.lt_or_ge y 188 with h188 | h188
                · have e : y = 187 := by omega
                  subst e
                  exact zpo_187 l
                · rcases Nat.lt_or_ge y 189 with h189 | h189
                  · have e : y = 188 := by omega
                    subst e
                    exact zpo_188 l
                  · have e : y = 189 := by omega
                    subst e
                    exact zpo_189 l
      · rcases Nat.lt_or_ge y 209 with h209 | h209
        · rcases Nat.lt_or_ge y 199 with h199 | h199
          · rcases Nat.lt_or_ge y 194 with h194 | h194
            · rcases Nat.lt_or_ge y 192 with h192 | h192
              · rcases Nat.lt_or_ge y 191 with h191 | h191
                · have e : y = 190 := by omega
                  subst e
                  exact zpo_190 l
                · have e : y = 191 := by omega
                  subst e
                  exact zpo_191 l
              · rcases Nat.lt_or_ge y 193 with h193 | h193
                · have e : y = 192 := by omega
                  subst e
                  exact zpo_192 l
                · have e : y = 193 := by omega
                  subst e
                  exact zpo_193 l
            · rcases Nat.lt_or_ge y 196 with h196 | h196
              · rcases Nat.lt_or_ge y 195 with h195 | h195
                · have e : y = 194 := by omega
                  subst e
                  exact zpo_194 l
                · have e : y = 195 := by omega
                  subst e
                  exact zpo_195 l
              · rcases Nat.lt_or_ge y 197 with h197 | h197
                · have e : y = 196 := by omega
                  subst e
                  exact zpo_196 l
                · rcases Nat.lt_or_ge y 198 with h198 | h198
                  · have e : y = 197 := by omega
                    subst e
                    exact zpo_197 l
                  · have e : y = 198 := by omega
                    subst e
                    exact zpo_198 l
          · rcases Nat.lt_or_ge y 204 with h204 | h204
            · rcases Nat.lt_or_ge y 201 with h201 | h201
              · rcases Nat.lt_or_ge y 200 with h200 | h200
                · have e : y = 199 := by omega
                  subst e
                  exact zpo_199 l
                · have e : y = 200 := by omega
                  subst e
                  exact zpo_200 l
              · rcases Nat.lt_or_ge y 202 with h202 | h202
                · have e : y = 201 := by omega
                  subst e
                  exact zpo_201 l
                · rcases Nat.lt_or_ge y 203 with h203 | h203
                  · have e : y = 202 := by omega
                    subst e
                    exact zpo_202 l
                  · have e : y = 203 := by omega
                    subst e
                    exact zpo_203 l
            · rcases Nat.lt_or_ge y 206 with h206 | h206
              · rcases Nat.lt_or_ge y 205 with h205 | h205
                · have e : y = 204 := by omega
                  subst e
                  exact zpo_204 l
                · have e : y = 205 := by omega
                  subst e
                  exact zpo_205 l
              · rcases Nat.lt_or_ge y 207 with h207 | h207
                · have e : y = 206 := by omega
                  subst e
                  exact zpo_206 l
                · rcases Nat.lt_or_ge y 208 with h208 | h208
                  · have e : y = 207 := by omega
                    subst e
                    exact zpo_207 l
                  · have e : y = 208 := by omega
                    subst e
                    exact zpo_208 l
        · rcases Nat.lt_or_ge y 218 with h218 | h218
          · rcases Nat.lt_or_ge y 213 with h213 | h213
            · rcases Nat.lt_or_ge y 211 with h211 | h211
              · rcases Nat.lt_or_ge y 210 with h210 | h210
                · have e : y = 209 := by omega
                  subst e
                  exact zpo_209 l
                · have e : y = 210 := by omega
                  subst e
                  exact zpo_210 l
              · rcases Nat.lt_or_ge y 212 with h212 | h212
                · have e : y = 211 := by omega
                  subst e
                  exact zpo_211 l
                · have e : y = 212 := by omega
                  subst e
                  exact zpo_212 l
            · rcases Nat.lt_or_ge y 215 with h215 | h215
              · rcases Nat.lt_or_ge y 214 with h214 | h214
                · have e : y = 213 := by omega
                  subst e
                  exact zpo_213 l
                · have e : y = 214 := by omega
                  subst e
                  exact zpo_214 l
              · rcases Nat.lt_or_ge y 216 with h216 | h216
                · have e : y = 215 := by omega
                  subst e
                  exact zpo_215 l
                · rcases Nat.lt_or_ge y 217 with h217 | h217
                  · have e : y = 216 := by omega
                    subst e
                    exact zpo_216 l
                  · have e : y = 217 := by omega
                    subst e
                    exact zpo_217 l
          · rcases Nat.lt_or_ge y 223 with h223 | h223
            · rcases Nat.lt_or_ge y 220 with h220 | h220
              · rcases Nat.lt_or_ge y 219 with h219 | h219
                · have e : y = 218 := by omega
                  subst e
                  exact zpo_218 l
                · have e : y = 219 := by omega
                  subst e
                  exact zpo_219 l
              · rcases Nat.lt_or_ge y 221 with h221 | h221
                · have e : y = 220 := by omega
                  subst e
                  exact zpo_220 l
                · rcases Nat.lt_or_ge y 222 with h222 | h222
                  · have e : y = 221 := by omega
                    subst e
                    exact zpo_221 l
                  · have e : y = 222 := by omega
                    subst e
                    exact zpo_222 l
            · rcases Nat.lt_or_ge y 225 with h225 | h225
              · rcases Nat.lt_or_ge y 224 with h224 | h224
                · have e : y = 223 := by omega
                  subst e
                  exact zpo_223 l
                · have e : y = 224 := by omega
                  subst e
                  exact zpo_224 l
              · rcases Nat.lt_or_ge y 226 with h226 | h226
                · have e : y = 225 := by omega
                  subst e
                  exact zpo_225 l
                · rcases Nat.lt_or_ge y 227 with h227 | h227
                  · have e : y = 226 := by omega
                    subst e
                    exact zpo_226 l
                  · have e : y = 227 := by omega
                    subst e
                    exact zpo_227 l
    · rcases Nat.lt_or_ge y 266 with h266 | h266
      · rcases Nat.lt_or_ge y 247 with h247 | h247
        · rcases Nat.lt_or_ge y 237 with h237 | h237
          · rcases Nat.lt_or_ge y 232 with h232 | h232
            · rcases Nat.lt_or_ge y 230 with h230 | h230
              · rcases Nat.lt_or_ge y 229 with h229 | h229
                · have e : y = 228 := by omega
                  subst e
                  exact zpo_228 l
                · have e : y = 229 := by omega
                  subst e
                  exact zpo_229 l
              · rcases Nat.lt_or_ge y 231 with h231 | h231
                · have e : y = 230 := by omega
                  subst e
                  exact zpo_230 l
                · have e : y = 231 := by omega
                  subst e
                  exact zpo_231 l
            · rcases Nat.lt_or_ge y 234 with h234 | h234
              · rcases Nat.lt_or_ge y 233 with h233 | h233
                · have e : y = 232 := by omega
                  subst e
                  exact zpo_232 l
                · have e : y = 233 := by omega
                  subst e
                  exact zpo_233 l
              · rcases Nat.lt_or_ge y 235 with h235 | h235
                · have e : y = 234 := by omega
                  subst e
                  exact zpo_234 l
                · rcases Nat.lt_or_ge y 236 with h236 | h236
                  · have e : y = 235 := by omega
                    subst e
                    exact zpo_235 l
                  · have e : y = 236 := by omega
                    subst e
                    exact zpo_236 l
          · rcases Nat.lt_or_ge y 242 with h242 | h242
            · rcases Nat.lt_or_ge y 239 with h239 | h239
              · rcases Nat.lt_or_ge y 238 with h238 | h238
                · have e : y = 237 := by omega
                  subst e
                  exact zpo_237 l
                · have e : y = 238 := by omega
                  subst e
                  exact zpo_238 l
              · rcases Nat.lt_or_ge y 240 with h240 | h240
                · have e : y = 239 := by omega
                  subst e
                  exact zpo_239 l
                · rcases Nat.lt_or_ge y 241 with h241 | h241
                  · have e : y = 240 := by omega
                    subst e
                    exact zpo_240 l
                  · have e : y = 241 := by omega
                    subst e
                    exact zpo_241 l
            · rcases Nat.lt_or_ge y 244 with h244 | h244
              · rcases Nat.lt_or_ge y 243 with h243 | h243
                · have e : y = 242 := by omega
                  subst e
                  exact zpo_242 l
                · have e : y = 243 := by omega
                  subst e
                  exact zpo_243 l
              · rcases Nat.lt_or_ge y 245 with h245 | h245
                · have e : y = 244 := by omega
                  subst e
                  exact zpo_244 l
                · rcases Nat.lt_or_ge y 246 with h246 | h246
                  · have e : y = 245 := by omega
                    subst e
                    exact zpo_245 l
                  · have e : y = 246 := by omega
                    subst e
                    exact zpo_246 l
        · rcases Nat.lt_or_ge y 256 with h256 | h256
          · rcases Nat.lt_or_ge y 251 with h251 | h251
            · rcases Nat.lt_or_ge y 249 with h249 | h249
              · rcases Nat.lt_or_ge y 248 with h248 | h248
                · have e : y = 247 := by omega
                  subst e
                  exact zpo_247 l
                · have e : y = 248 := by omega
                  subst e
                  exact zpo_248 l
              · rcases Nat.lt_or_ge y 250 with h250 | h250
                · have e : y = 249 := by omega
                  subst e
                  exact zpo_249 l
                · have e : y = 250 := by omega
                  subst e
                  exact zpo_250 l
            · rcases Nat.lt_or_ge y 253 with h253 | h253
              · rcases Nat.lt_or_ge y 252 with h252 | h252
                · have e : y = 251 := by omega
                  subst e
                  exact zpo_251 l
                · have e : y = 252 := by omega
                  subst e
                  exact zpo_252 l
              · rcases Nat.lt_or_ge y 254 with h254 | h254
                · have e : y = 253 := by omega
                  subst e
                  exact zpo_253 l
                · rcases Nat.lt_or_ge y 255 with h255 | h255
                  · have e : y = 254 := by omega
                    subst e
                    exact zpo_254 l
                  · have e : y = 255 := by omega
                    subst e
                    exact zpo_255 l
          · rcases Nat.lt_or_ge y 261 with h261 | h261
            · rcases Nat.lt_or_ge y 258 with h258 | h258
              · rcases Nat.lt_or_ge y 257 with h257 | h257
                · have e : y = 256 := by omega
                  subst e
                  exact zpo_256 l
                · have e : y = 257 := by omega
                  subst e
                  exact zpo_257 l
              · rcases Nat.lt_or_ge y 259 with h259 | h259
                · have e : y = 258 := by omega
                  subst e
                  exact zpo_258 l
                · rcases Nat.lt_or_ge y 260 with h260 | h260
                  · have e : y = 259 := by omega
                    subst e
                    exact zpo_259 l
                  · have e : y = 260 := by omega
                    subst e
                    exact zpo_260 l
            · rcases Nat.lt_or_ge y 263 with h263 | h263
              · rcases Nat.lt_or_ge y 262 with h262 | h262
                · have e : y = 261 := by omega
                  subst e
                  exact zpo_261 l
                · have e : y = 262 := by omega
                  subst e
                  exact zpo_262 l
              · rcases Nat.lt_or_ge y 264 with h264 | h264
                · have e : y = 263 := by omega
                  subst e
                  exact zpo_263 l
                · rcases Nat.lt_or_ge y 265 with h265 | h265
                  · have e : y = 264 := by omega
                    subst e
                    exact zpo_264 l
                  · have e : y = 265 := by omega
                    subst e
                    exact zpo_265 l
      · rcases Nat.lt_or_ge y 285 with h285 | h285
        · rcases Nat.lt_or_ge y 275 with h275 | h275
          · rcases Nat.lt_or_ge y 270 with h270 | h270
            · rcases Nat.lt_or_ge y 268 with h268 | h268
              · rcases Nat.lt_or_ge y 267 with h267 | h267
                · have e : y = 266 := by omega
                  subst e
                  exact zpo_266 l
                · have e : y = 267 := by omega
                  subst e
                  exact zpo_267 l
              · rcases Nat.lt_or_ge y 269 with h269 | h269
                · have e : y = 268 := by omega
                  subst e
                  exact zpo_268 l
                · have e : y = 269 := by omega
                  subst e
                  exact zpo_269 l
            · rcases Nat.lt_or_ge y 272 with h272 | h272
              · rcases Nat.lt_or_ge y 271 with h271 | h271
                · have e : y = 270 := by omega
                  subst e
                  exact zpo_270 l
                · have e : y = 271 := by omega
                  subst e
                  exact zpo_271 l
              · rcases Nat.lt_or_ge y 273 with h273 | h273
                · have e : y = 272 := by omega
                  subst e
                  exact zpo_272 l
                · rcases Nat.lt_or_ge y 274 with h274 | h274
                  · have e : y = 273 := by omega
                    subst e
                    exact zpo_273 l
                  · have e : y = 274 := by omega
                    subst e
                    exact zpo_274 l
          · rcases Nat.lt_or_ge y 280 with h280 | h280
            · rcases Nat.lt_or_ge y 277 with h277 | h277
              · rcases Nat.lt_or_ge y 276 with h276 | h276
                · have e : y = 275 := by omega
                  subst e
                  exact zpo_275 l
                · have e : y = 276 := by omega
                  subst e
                  exact zpo_276 l
              · rcases Nat.lt_or_ge y 278 with h278 | h278
                · have e : y = 277 := by omega
                  subst e
                  exact zpo_277 l
                · rcases Nat.lt_or_ge y 279 with h279 | h279
                  · have e : y = 278 := by omega
                    subst e
                    exact zpo_278 l
                  · have e : y = 279 := by omega
                    subst e
                    exact zpo_279 l
            · rcases Nat.lt_or_ge y 282 with h282 | h282
              · rcases Nat.lt_or_ge y 281 with h281 | h281
                · have e : y = 280 := by omega
                  subst e
                  exact zpo_280 l
                · have e : y = 281 := by omega
                  subst e
                  exact zpo_281 l
              · rcases Nat.lt_or_ge y 283 with h283 | h283
                · have e : y = 282 := by omega
                  subst e
                  exact zpo_282 l
                · rcases Nat.lt_or_ge y 284 with h284 | h284
                  · have e : y = 283 := by omega
                    subst e
                    exact zpo_283 l
                  · have e : y = 284 := by omega
                    subst e
                    exact zpo_284 l
        · rcases Nat.lt_or_ge y 294 with h294 | h294
          · rcases Nat.lt_or_ge y 289 with h289 | h289
            · rcases Nat.lt_or_ge y 287 with h287 | h287
              · rcases Nat.lt_or_ge y 286 with h286 | h286
                · have e : y = 285 := by omega
                  subst e
                  exact zpo_285 l
                · have e : y = 286 := by omega
                  subst e
                  exact zpo_286 l
              · rcases Nat.lt_or_ge y 288 with h288 | h288
                · have e : y = 287 := by omega
                  subst e
                  exact zpo_287 l
                · have e : y = 288 := by omega
                  subst e
                  exact zpo_288 l
            · rcases Nat.lt_or_ge y 291 with h291 | h291
              · rcases Nat.lt_or_ge y 290 with h290 | h290
                · have e : y = 289 := by omega
                  subst e
                  exact zpo_289 l
                · have e : y = 290 := by omega
                  subst e
                  exact zpo_290 l
              · rcases Nat.lt_or_ge y 292 with h292 | h292
                · have e : y = 291 := by omega
                  subst e
                  exact zpo_291 l
                · rcases Nat.lt_or_ge y 293 with h293 | h293
                  · have e : y = 292 := by omega
                    subst e
                    exact zpo_292 l
                  · have e : y = 293 := by omega
                    subst e
                    exact zpo_293 l
          · rcases Nat.lt_or_ge y 299 with h299 | h299
            · rcases Nat.lt_or_ge y 296 with h296 | h296
              · rcases Nat.lt_or_ge y 295 with h295 | h295
                · have e : y = 294 := by omega
                  subst e
                  exact zpo_294 l
                · have e : y = 295 := by omega
                  subst e
                  exact zpo_295 l
              · rcases Nat.lt_or_ge y 297 with h297 | h297
                · have e : y = 296 := by omega
                  subst e
                  exact zpo_296 l
                · rcases Nat.lt_or_ge y 298 with h298 | h298
                  · have e : y = 297 := by omega
                    subst e
                    exact zpo_297 l
                  · have e : y = 298 := by omega
                    subst e
                    exact zpo_298 l
            · rcases Nat.lt_or_ge y 301 with h301 | h301
              · rcases Nat.lt_or_ge y 300 with h300 | h300
                · have e : y = 299 := by omega
                  subst e
                  exact zpo_299 l
                · have e : y = 300 := by omega
                  subst e
                  exact zpo_300 l
              · rcases Nat.lt_or_ge y 302 with h302 | h302
                · have e : y = 301 := by omega
                  subst e
                  exact zpo_301 l
                · rcases Nat.lt_or_ge y 303 with h303 | h303
                  · have e : y = 302 := by omega
                    subst e
                    exact zpo_302 l
                  · have e : y = 303 := by omega
                    subst e
                    exact zpo_303 l
-- END
