/-! The code words of the methods, at their places. Written by wip/whole/gen/mkcall.py. -/
set_option maxRecDepth 100000 in
theorem mj_cw_0 : lw_tbl[(mj_mp 0).1]? = some (mj_cw 0) := rfl
set_option maxRecDepth 100000 in
theorem mj_cw_1 : lw_tbl[(mj_mp 1).1]? = some (mj_cw 1) := rfl
set_option maxRecDepth 100000 in
theorem mj_cw_2 : lw_tbl[(mj_mp 2).1]? = some (mj_cw 2) := rfl
set_option maxRecDepth 100000 in
theorem mj_cw_3 : lw_tbl[(mj_mp 3).1]? = some (mj_cw 3) := rfl
set_option maxRecDepth 100000 in
theorem mj_cw_4 : lw_tbl[(mj_mp 4).1]? = some (mj_cw 4) := rfl
set_option maxRecDepth 100000 in
theorem mj_cw_5 : lw_tbl[(mj_mp 5).1]? = some (mj_cw 5) := rfl
set_option maxRecDepth 100000 in
theorem mj_cw_6 : lw_tbl[(mj_mp 6).1]? = some (mj_cw 6) := rfl
set_option maxRecDepth 100000 in
theorem mj_cw_7 : lw_tbl[(mj_mp 7).1]? = some (mj_cw 7) := rfl
set_option maxRecDepth 100000 in
theorem mj_cw_8 : lw_tbl[(mj_mp 8).1]? = some (mj_cw 8) := rfl
set_option maxRecDepth 100000 in
theorem mj_cw_9 : lw_tbl[(mj_mp 9).1]? = some (mj_cw 9) := rfl
set_option maxRecDepth 100000 in
theorem mj_cw_10 : lw_tbl[(mj_mp 10).1]? = some (mj_cw 10) := rfl
set_option maxRecDepth 100000 in
theorem mj_cw_11 : lw_tbl[(mj_mp 11).1]? = some (mj_cw 11) := rfl
set_option maxRecDepth 100000 in
theorem mj_cw_12 : lw_tbl[(mj_mp 12).1]? = some (mj_cw 12) := rfl
set_option maxRecDepth 100000 in
theorem mj_cw_13 : lw_tbl[(mj_mp 13).1]? = some (mj_cw 13) := rfl
set_option maxRecDepth 100000 in
theorem mj_cw_14 : lw_tbl[(mj_mp 14).1]? = some (mj_cw 14) := rfl
set_option maxRecDepth 100000 in
theorem mj_cw_15 : lw_tbl[(mj_mp 15).1]? = some (mj_cw 15) := rfl
set_option maxRecDepth 100000 in
theorem mj_cw_16 : lw_tbl[(mj_mp 16).1]? = some (mj_cw 16) := rfl
set_option maxRecDepth 100000 in
theorem mj_cw_17 : lw_tbl[(mj_mp 17).1]? = some (mj_cw 17) := rfl
set_option maxRecDepth 100000 in
theorem mj_cw_18 : lw_tbl[(mj_mp 18).1]? = some (mj_cw 18) := rfl
set_option maxRecDepth 100000 in
theorem mj_cw_19 : lw_tbl[(mj_mp 19).1]? = some (mj_cw 19) := rfl
set_option maxRecDepth 100000 in
theorem mj_cw_20 : lw_tbl[(mj_mp 20).1]? = some (mj_cw 20) := rfl
set_option maxRecDepth 100000 in
theorem mj_cw_21 : lw_tbl[(mj_mp 21).1]? = some (mj_cw 21) := rfl
set_option maxRecDepth 100000 in
theorem mj_cw_22 : lw_tbl[(mj_mp 22).1]? = some (mj_cw 22) := rfl
set_option maxRecDepth 100000 in
theorem mj_cw_23 : lw_tbl[(mj_mp 23).1]? = some (mj_cw 23) := rfl
set_option maxRecDepth 100000 in
theorem mj_cw_24 : lw_tbl[(mj_mp 24).1]? = some (mj_cw 24) := rfl
set_option maxRecDepth 100000 in
theorem mj_cw_25 : lw_tbl[(mj_mp 25).1]? = some (mj_cw 25) := rfl
set_option maxRecDepth 100000 in
theorem mj_cw_26 : lw_tbl[(mj_mp 26).1]? = some (mj_cw 26) := rfl
set_option maxRecDepth 100000 in
theorem mj_cw_27 : lw_tbl[(mj_mp 27).1]? = some (mj_cw 27) := rfl
set_option maxRecDepth 100000 in
theorem mj_cw_28 : lw_tbl[(mj_mp 28).1]? = some (mj_cw 28) := rfl
set_option maxRecDepth 100000 in
theorem mj_cw_29 : lw_tbl[(mj_mp 29).1]? = some (mj_cw 29) := rfl
set_option maxRecDepth 100000 in
theorem mj_cw_30 : lw_tbl[(mj_mp 30).1]? = some (mj_cw 30) := rfl
set_option maxRecDepth 100000 in
theorem mj_cw_31 : lw_tbl[(mj_mp 31).1]? = some (mj_cw 31) := rfl
set_option maxRecDepth 100000 in
theorem mj_cw_32 : lw_tbl[(mj_mp 32).1]? = some (mj_cw 32) := rfl
set_option maxRecDepth 100000 in
theorem mj_cw_33 : lw_tbl[(mj_mp 33).1]? = some (mj_cw 33) := rfl
set_option maxRecDepth 100000 in
theorem mj_cw_34 : lw_tbl[(mj_mp 34).1]? = some (mj_cw 34) := rfl
set_option maxRecDepth 100000 in
theorem mj_cw_35 : lw_tbl[(mj_mp 35).1]? = some (mj_cw 35) := rfl
set_option maxRecDepth 100000 in
theorem mj_cw_36 : lw_tbl[(mj_mp 36).1]? = some (mj_cw 36) := rfl
set_option maxRecDepth 100000 in
theorem mj_cw_37 : lw_tbl[(mj_mp 37).1]? = some (mj_cw 37) := rfl
set_option maxRecDepth 100000 in
theorem mj_cw_38 : lw_tbl[(mj_mp 38).1]? = some (mj_cw 38) := rfl
set_option maxRecDepth 100000 in
theorem mj_cw_39 : lw_tbl[(mj_mp 39).1]? = some (mj_cw 39) := rfl
set_option maxRecDepth 100000 in
theorem mj_cw_40 : lw_tbl[(mj_mp 40).1]? = some (mj_cw 40) := rfl
set_option maxRecDepth 100000 in
theorem mj_cw_41 : lw_tbl[(mj_mp 41).1]? = some (mj_cw 41) := rfl
set_option maxRecDepth 100000 in
theorem mj_cw_42 : lw_tbl[(mj_mp 42).1]? = some (mj_cw 42) := rfl
set_option maxRecDepth 100000 in
theorem mj_cw_43 : lw_tbl[(mj_mp 43).1]? = some (mj_cw 43) := rfl
set_option maxRecDepth 100000 in
theorem mj_cw_44 : lw_tbl[(mj_mp 44).1]? = some (mj_cw 44) := rfl
set_option maxRecDepth 100000 in
theorem mj_cw_45 : lw_tbl[(mj_mp 45).1]? = some (mj_cw 45) := rfl
set_option maxRecDepth 100000 in
theorem mj_cw_46 : lw_tbl[(mj_mp 46).1]? = some (mj_cw 46) := rfl
set_option maxRecDepth 100000 in
theorem mj_cw_47 : lw_tbl[(mj_mp 47).1]? = some (mj_cw 47) := rfl
set_option maxRecDepth 100000 in
theorem mj_cw_48 : lw_tbl[(mj_mp 48).1]? = some (mj_cw 48) := rfl
set_option maxRecDepth 100000 in
theorem mj_cw_49 : lw_tbl[(mj_mp 49).1]? = some (mj_cw 49) := rfl
set_option maxRecDepth 100000 in
theorem mj_cw_50 : lw_tbl[(mj_mp 50).1]? = some (mj_cw 50) := rfl
set_option maxRecDepth 100000 in
theorem mj_cw_51 : lw_tbl[(mj_mp 51).1]? = some (mj_cw 51) := rfl
set_option maxRecDepth 100000 in
theorem mj_cw_52 : lw_tbl[(mj_mp 52).1]? = some (mj_cw 52) := rfl
set_option maxRecDepth 100000 in
theorem mj_cw_53 : lw_tbl[(mj_mp 53).1]? = some (mj_cw 53) := rfl
set_option maxRecDepth 100000 in
theorem mj_cw_54 : lw_tbl[(mj_mp 54).1]? = some (mj_cw 54) := rfl
set_option maxRecDepth 100000 in
theorem mj_cw_55 : lw_tbl[(mj_mp 55).1]? = some (mj_cw 55) := rfl
set_option maxRecDepth 100000 in
theorem mj_cw_56 : lw_tbl[(mj_mp 56).1]? = some (mj_cw 56) := rfl
set_option maxRecDepth 100000 in
theorem mj_cw_57 : lw_tbl[(mj_mp 57).1]? = some (mj_cw 57) := rfl
set_option maxRecDepth 100000 in
theorem mj_cw_58 : lw_tbl[(mj_mp 58).1]? = some (mj_cw 58) := rfl
set_option maxRecDepth 100000 in
theorem mj_cw_59 : lw_tbl[(mj_mp 59).1]? = some (mj_cw 59) := rfl
set_option maxRecDepth 100000 in
theorem mj_cw_60 : lw_tbl[(mj_mp 60).1]? = some (mj_cw 60) := rfl
set_option maxRecDepth 100000 in
theorem mj_cw_61 : lw_tbl[(mj_mp 61).1]? = some (mj_cw 61) := rfl
set_option maxRecDepth 100000 in
theorem mj_cw_62 : lw_tbl[(mj_mp 62).1]? = some (mj_cw 62) := rfl
set_option maxRecDepth 100000 in
theorem mj_cw_63 : lw_tbl[(mj_mp 63).1]? = some (mj_cw 63) := rfl
set_option maxRecDepth 100000 in
theorem mj_cw_64 : lw_tbl[(mj_mp 64).1]? = some (mj_cw 64) := rfl
set_option maxRecDepth 100000 in
theorem mj_cw_65 : lw_tbl[(mj_mp 65).1]? = some (mj_cw 65) := rfl
set_option maxRecDepth 100000 in
theorem mj_cw_66 : lw_tbl[(mj_mp 66).1]? = some (mj_cw 66) := rfl
set_option maxRecDepth 100000 in
theorem mj_cw_67 : lw_tbl[(mj_mp 67).1]? = some (mj_cw 67) := rfl
set_option maxRecDepth 100000 in
theorem mj_cw_68 : lw_tbl[(mj_mp 68).1]? = some (mj_cw 68) := rfl
set_option maxRecDepth 100000 in
theorem mj_cw_69 : lw_tbl[(mj_mp 69).1]? = some (mj_cw 69) := rfl
set_option maxRecDepth 100000 in
theorem mj_cw_70 : lw_tbl[(mj_mp 70).1]? = some (mj_cw 70) := rfl
set_option maxRecDepth 100000 in
theorem mj_cw_71 : lw_tbl[(mj_mp 71).1]? = some (mj_cw 71) := rfl
set_option maxRecDepth 100000 in
theorem mj_cw_72 : lw_tbl[(mj_mp 72).1]? = some (mj_cw 72) := rfl
set_option maxRecDepth 100000 in
theorem mj_cw_73 : lw_tbl[(mj_mp 73).1]? = some (mj_cw 73) := rfl
set_option maxRecDepth 100000 in
theorem mj_cw_74 : lw_tbl[(mj_mp 74).1]? = some (mj_cw 74) := rfl
set_option maxRecDepth 100000 in
theorem mj_cw_75 : lw_tbl[(mj_mp 75).1]? = some (mj_cw 75) := rfl
set_option maxRecDepth 100000 in
theorem mj_cw_76 : lw_tbl[(mj_mp 76).1]? = some (mj_cw 76) := rfl
set_option maxRecDepth 100000 in
theorem mj_cw_77 : lw_tbl[(mj_mp 77).1]? = some (mj_cw 77) := rfl
set_option maxRecDepth 100000 in
theorem mj_cw_78 : lw_tbl[(mj_mp 78).1]? = some (mj_cw 78) := rfl
set_option maxRecDepth 100000 in
theorem mj_cw_79 : lw_tbl[(mj_mp 79).1]? = some (mj_cw 79) := rfl
set_option maxRecDepth 100000 in
theorem mj_cw_80 : lw_tbl[(mj_mp 80).1]? = some (mj_cw 80) := rfl
set_option maxRecDepth 100000 in
theorem mj_cw_81 : lw_tbl[(mj_mp 81).1]? = some (mj_cw 81) := rfl
set_option maxRecDepth 100000 in
theorem mj_cw_82 : lw_tbl[(mj_mp 82).1]? = some (mj_cw 82) := rfl
set_option maxRecDepth 100000 in
theorem mj_cw_83 : lw_tbl[(mj_mp 83).1]? = some (mj_cw 83) := rfl
set_option maxRecDepth 100000 in
theorem mj_cw_84 : lw_tbl[(mj_mp 84).1]? = some (mj_cw 84) := rfl
set_option maxRecDepth 100000 in
theorem mj_cw_85 : lw_tbl[(mj_mp 85).1]? = some (mj_cw 85) := rfl
set_option maxRecDepth 100000 in
theorem mj_cw_86 : lw_tbl[(mj_mp 86).1]? = some (mj_cw 86) := rfl
set_option maxRecDepth 100000 in
theorem mj_cw_87 : lw_tbl[(mj_mp 87).1]? = some (mj_cw 87) := rfl
set_option maxRecDepth 100000 in
theorem mj_cw_88 : lw_tbl[(mj_mp 88).1]? = some (mj_cw 88) := rfl
set_option maxRecDepth 100000 in
theorem mj_cw_89 : lw_tbl[(mj_mp 89).1]? = some (mj_cw 89) := rfl
set_option maxRecDepth 100000 in
theorem mj_cw_90 : lw_tbl[(mj_mp 90).1]? = some (mj_cw 90) := rfl
set_option maxRecDepth 100000 in
theorem mj_cw_91 : lw_tbl[(mj_mp 91).1]? = some (mj_cw 91) := rfl
set_option maxRecDepth 100000 in
theorem mj_cw_92 : lw_tbl[(mj_mp 92).1]? = some (mj_cw 92) := rfl
set_option maxRecDepth 100000 in
theorem mj_cw_93 : lw_tbl[(mj_mp 93).1]? = some (mj_cw 93) := rfl
set_option maxRecDepth 100000 in
theorem mj_cw_94 : lw_tbl[(mj_mp 94).1]? = some (mj_cw 94) := rfl
set_option maxRecDepth 100000 in
theorem mj_cw_95 : lw_tbl[(mj_mp 95).1]? = some (mj_cw 95) := rfl
set_option maxRecDepth 100000 in
theorem mj_cw_96 : lw_tbl[(mj_mp 96).1]? = some (mj_cw 96) := rfl
set_option maxRecDepth 100000 in
theorem mj_cw_97 : lw_tbl[(mj_mp 97).1]? = some (mj_cw 97) := rfl
set_option maxRecDepth 100000 in
theorem mj_cw_98 : lw_tbl[(mj_mp 98).1]? = some (mj_cw 98) := rfl
set_option maxRecDepth 100000 in
theorem mj_cw_99 : lw_tbl[(mj_mp 99).1]? = some (mj_cw 99) := rfl
set_option maxRecDepth 100000 in
theorem mj_cw_100 : lw_tbl[(mj_mp 100).1]? = some (mj_cw 100) := rfl
set_option maxRecDepth 100000 in
theorem mj_cw_101 : lw_tbl[(mj_mp 101).1]? = some (mj_cw 101) := rfl
set_option maxRecDepth 100000 in
theorem mj_cw_102 : lw_tbl[(mj_mp 102).1]? = some (mj_cw 102) := rfl
set_option maxRecDepth 100000 in
theorem mj_cw_103 : lw_tbl[(mj_mp 103).1]? = some (mj_cw 103) := rfl
set_option maxRecDepth 100000 in
theorem mj_cw_104 : lw_tbl[(mj_mp 104).1]? = some (mj_cw 104) := rfl
set_option maxRecDepth 100000 in
theorem mj_cw_105 : lw_tbl[(mj_mp 105).1]? = some (mj_cw 105) := rfl
set_option maxRecDepth 100000 in
theorem mj_cw_106 : lw_tbl[(mj_mp 106).1]? = some (mj_cw 106) := rfl
set_option maxRecDepth 100000 in
theorem mj_cw_107 : lw_tbl[(mj_mp 107).1]? = some (mj_cw 107) := rfl
set_option maxRecDepth 100000 in
theorem mj_cw_108 : lw_tbl[(mj_mp 108).1]? = some (mj_cw 108) := rfl
set_option maxRecDepth 100000 in
theorem mj_cw_109 : lw_tbl[(mj_mp 109).1]? = some (mj_cw 109) := rfl
set_option maxRecDepth 100000 in
theorem mj_cw_110 : lw_tbl[(mj_mp 110).1]? = some (mj_cw 110) := rfl
set_option maxRecDepth 100000 in
theorem mj_cw_111 : lw_tbl[(mj_mp 111).1]? = some (mj_cw 111) := rfl
set_option maxRecDepth 100000 in
theorem mj_cw_112 : lw_tbl[(mj_mp 112).1]? = some (mj_cw 112) := rfl
set_option maxRecDepth 100000 in
theorem mj_cw_113 : lw_tbl[(mj_mp 113).1]? = some (mj_cw 113) := rfl
set_option maxRecDepth 100000 in
theorem mj_cw_114 : lw_tbl[(mj_mp 114).1]? = some (mj_cw 114) := rfl
set_option maxRecDepth 100000 in
theorem mj_cw_115 : lw_tbl[(mj_mp 115).1]? = some (mj_cw 115) := rfl
set_option maxRecDepth 100000 in
theorem mj_cw_116 : lw_tbl[(mj_mp 116).1]? = some (mj_cw 116) := rfl
set_option maxRecDepth 100000 in
theorem mj_cw_117 : lw_tbl[(mj_mp 117).1]? = some (mj_cw 117) := rfl
set_option maxRecDepth 100000 in
theorem mj_cw_118 : lw_tbl[(mj_mp 118).1]? = some (mj_cw 118) := rfl
set_option maxRecDepth 100000 in
theorem mj_cw_119 : lw_tbl[(mj_mp 119).1]? = some (mj_cw 119) := rfl
set_option maxRecDepth 100000 in
theorem mj_cw_120 : lw_tbl[(mj_mp 120).1]? = some (mj_cw 120) := rfl
set_option maxRecDepth 100000 in
theorem mj_cw_121 : lw_tbl[(mj_mp 121).1]? = some (mj_cw 121) := rfl
set_option maxRecDepth 100000 in
theorem mj_cw_122 : lw_tbl[(mj_mp 122).1]? = some (mj_cw 122) := rfl
set_option maxRecDepth 100000 in
theorem mj_cw_123 : lw_tbl[(mj_mp 123).1]? = some (mj_cw 123) := rfl
set_option maxRecDepth 100000 in
theorem mj_cw_124 : lw_tbl[(mj_mp 124).1]? = some (mj_cw 124) := rfl
set_option maxRecDepth 100000 in
theorem mj_cw_125 : lw_tbl[(mj_mp 125).1]? = some (mj_cw 125) := rfl
set_option maxRecDepth 100000 in
theorem mj_cw_126 : lw_tbl[(mj_mp 126).1]? = some (mj_cw 126) := rfl
set_option maxRecDepth 100000 in
theorem mj_cw_127 : lw_tbl[(mj_mp 127).1]? = some (mj_cw 127) := rfl
set_option maxRecDepth 100000 in
theorem mj_cw_128 : lw_tbl[(mj_mp 128).1]? = some (mj_cw 128) := rfl
set_option maxRecDepth 100000 in
theorem mj_cw_129 : lw_tbl[(mj_mp 129).1]? = some (mj_cw 129) := rfl
set_option maxRecDepth 100000 in
theorem mj_cw_130 : lw_tbl[(mj_mp 130).1]? = some (mj_cw 130) := rfl
set_option maxRecDepth 100000 in
theorem mj_cw_131 : lw_tbl[(mj_mp 131).1]? = some (mj_cw 131) := rfl
set_option maxRecDepth 100000 in
theorem mj_cw_132 : lw_tbl[(mj_mp 132).1]? = some (mj_cw 132) := rfl
set_option maxRecDepth 100000 in
theorem mj_cw_133 : lw_tbl[(mj_mp 133).1]? = some (mj_cw 133) := rfl
set_option maxRecDepth 100000 in
theorem mj_cw_134 : lw_tbl[(mj_mp 134).1]? = some (mj_cw 134) := rfl
set_option maxRecDepth 100000 in
theorem mj_cw_135 : lw_tbl[(mj_mp 135).1]? = some (mj_cw 135) := rfl
set_option maxRecDepth 100000 in
theorem mj_cw_136 : lw_tbl[(mj_mp 136).1]? = some (mj_cw 136) := rfl
set_option maxRecDepth 100000 in
theorem mj_cw_137 : lw_tbl[(mj_mp 137).1]? = some (mj_cw 137) := rfl
set_option maxRecDepth 100000 in
theorem mj_cw_138 : lw_tbl[(mj_mp 138).1]? = some (mj_cw 138) := rfl
set_option maxRecDepth 100000 in
theorem mj_cw_139 : lw_tbl[(mj_mp 139).1]? = some (mj_cw 139) := rfl
set_option maxRecDepth 100000 in
theorem mj_cw_140 : lw_tbl[(mj_mp 140).1]? = some (mj_cw 140) := rfl
set_option maxRecDepth 100000 in
theorem mj_cw_141 : lw_tbl[(mj_mp 141).1]? = some (mj_cw 141) := rfl
set_option maxRecDepth 100000 in
theorem mj_cw_142 : lw_tbl[(mj_mp 142).1]? = some (mj_cw 142) := rfl
set_option maxRecDepth 100000 in
theorem mj_cw_143 : lw_tbl[(mj_mp 143).1]? = some (mj_cw 143) := rfl
set_option maxRecDepth 100000 in
theorem mj_cw_144 : lw_tbl[(mj_mp 144).1]? = some (mj_cw 144) := rfl
set_option maxRecDepth 100000 in
theorem mj_cw_145 : lw_tbl[(mj_mp 145).1]? = some (mj_cw 145) := rfl
set_option maxRecDepth 100000 in
theorem mj_cw_146 : lw_tbl[(mj_mp 146).1]? = some (mj_cw 146) := rfl
set_option maxRecDepth 100000 in
theorem mj_cw_147 : lw_tbl[(mj_mp 147).1]? = some (mj_cw 147) := rfl
set_option maxRecDepth 100000 in
theorem mj_cw_148 : lw_tbl[(mj_mp 148).1]? = some (mj_cw 148) := rfl
set_option maxRecDepth 100000 in
theorem mj_cw_149 : lw_tbl[(mj_mp 149).1]? = some (mj_cw 149) := rfl
set_option maxRecDepth 100000 in
theorem mj_cw_150 : lw_tbl[(mj_mp 150).1]? = some (mj_cw 150) := rfl
set_option maxRecDepth 100000 in
theorem mj_cw_151 : lw_tbl[(mj_mp 151).1]? = some (mj_cw 151) := rfl
set_option maxRecDepth 100000 in
theorem mj_cw_152 : lw_tbl[(mj_mp 152).1]? = some (mj_cw 152) := rfl
set_option maxRecDepth 100000 in
theorem mj_cw_153 : lw_tbl[(mj_mp 153).1]? = some (mj_cw 153) := rfl
set_option maxRecDepth 100000 in
theorem mj_cw_154 : lw_tbl[(mj_mp 154).1]? = some (mj_cw 154) := rfl
set_option maxRecDepth 100000 in
theorem mj_cw_155 : lw_tbl[(mj_mp 155).1]? = some (mj_cw 155) := rfl
set_option maxRecDepth 100000 in
theorem mj_cw_156 : lw_tbl[(mj_mp 156).1]? = some (mj_cw 156) := rfl
set_option maxRecDepth 100000 in
theorem mj_cw_157 : lw_tbl[(mj_mp 157).1]? = some (mj_cw 157) := rfl
set_option maxRecDepth 100000 in
theorem mj_cw_158 : lw_tbl[(mj_mp 158).1]? = some (mj_cw 158) := rfl
set_option maxRecDepth 100000 in
theorem mj_cw_159 : lw_tbl[(mj_mp 159).1]? = some (mj_cw 159) := rfl
set_option maxRecDepth 100000 in
theorem mj_cw_160 : lw_tbl[(mj_mp 160).1]? = some (mj_cw 160) := rfl
set_option maxRecDepth 100000 in
theorem mj_cw_161 : lw_tbl[(mj_mp 161).1]? = some (mj_cw 161) := rfl
set_option maxRecDepth 100000 in
theorem mj_cw_162 : lw_tbl[(mj_mp 162).1]? = some (mj_cw 162) := rfl
set_option maxRecDepth 100000 in
theorem mj_cw_163 : lw_tbl[(mj_mp 163).1]? = some (mj_cw 163) := rfl
set_option maxRecDepth 100000 in
theorem mj_cw_164 : lw_tbl[(mj_mp 164).1]? = some (mj_cw 164) := rfl
set_option maxRecDepth 100000 in
theorem mj_cw_165 : lw_tbl[(mj_mp 165).1]? = some (mj_cw 165) := rfl
set_option maxRecDepth 100000 in
theorem mj_cw_166 : lw_tbl[(mj_mp 166).1]? = some (mj_cw 166) := rfl
set_option maxRecDepth 100000 in
theorem mj_cw_167 : lw_tbl[(mj_mp 167).1]? = some (mj_cw 167) := rfl
set_option maxRecDepth 100000 in
theorem mj_cw_168 : lw_tbl[(mj_mp 168).1]? = some (mj_cw 168) := rfl
set_option maxRecDepth 100000 in
theorem mj_cw_169 : lw_tbl[(mj_mp 169).1]? = some (mj_cw 169) := rfl
set_option maxRecDepth 100000 in
theorem mj_cw_170 : lw_tbl[(mj_mp 170).1]? = some (mj_cw 170) := rfl
set_option maxRecDepth 100000 in
theorem mj_cw_171 : lw_tbl[(mj_mp 171).1]? = some (mj_cw 171) := rfl
set_option maxRecDepth 100000 in
theorem mj_cw_172 : lw_tbl[(mj_mp 172).1]? = some (mj_cw 172) := rfl
set_option maxRecDepth 100000 in
theorem mj_cw_173 : lw_tbl[(mj_mp 173).1]? = some (mj_cw 173) := rfl
set_option maxRecDepth 100000 in
theorem mj_cw_174 : lw_tbl[(mj_mp 174).1]? = some (mj_cw 174) := rfl
set_option maxRecDepth 100000 in
theorem mj_cw_175 : lw_tbl[(mj_mp 175).1]? = some (mj_cw 175) := rfl
set_option maxRecDepth 100000 in
theorem mj_cw_176 : lw_tbl[(mj_mp 176).1]? = some (mj_cw 176) := rfl
set_option maxRecDepth 100000 in
theorem mj_cw_177 : lw_tbl[(mj_mp 177).1]? = some (mj_cw 177) := rfl
set_option maxRecDepth 100000 in
theorem mj_cw_178 : lw_tbl[(mj_mp 178).1]? = some (mj_cw 178) := rfl
set_option maxRecDepth 100000 in
theorem mj_cw_179 : lw_tbl[(mj_mp 179).1]? = some (mj_cw 179) := rfl
set_option maxRecDepth 100000 in
theorem mj_cw_180 : lw_tbl[(mj_mp 180).1]? = some (mj_cw 180) := rfl
set_option maxRecDepth 100000 in
theorem mj_cw_181 : lw_tbl[(mj_mp 181).1]? = some (mj_cw 181) := rfl
set_option maxRecDepth 100000 in
theorem mj_cw_182 : lw_tbl[(mj_mp 182).1]? = some (mj_cw 182) := rfl
set_option maxRecDepth 100000 in
theorem mj_cw_183 : lw_tbl[(mj_mp 183).1]? = some (mj_cw 183) := rfl
set_option maxRecDepth 100000 in
theorem mj_cw_184 : lw_tbl[(mj_mp 184).1]? = some (mj_cw 184) := rfl
set_option maxRecDepth 100000 in
theorem mj_cw_185 : lw_tbl[(mj_mp 185).1]? = some (mj_cw 185) := rfl
set_option maxRecDepth 100000 in
theorem mj_cw_186 : lw_tbl[(mj_mp 186).1]? = some (mj_cw 186) := rfl
set_option maxRecDepth 100000 in
theorem mj_cw_187 : lw_tbl[(mj_mp 187).1]? = some (mj_cw 187) := rfl
set_option maxRecDepth 100000 in
theorem mj_cw_188 : lw_tbl[(mj_mp 188).1]? = some (mj_cw 188) := rfl
set_option maxRecDepth 100000 in
theorem mj_cw_189 : lw_tbl[(mj_mp 189).1]? = some (mj_cw 189) := rfl
set_option maxRecDepth 100000 in
theorem mj_cw_190 : lw_tbl[(mj_mp 190).1]? = some (mj_cw 190) := rfl
set_option maxRecDepth 100000 in
theorem mj_cw_191 : lw_tbl[(mj_mp 191).1]? = some (mj_cw 191) := rfl
set_option maxRecDepth 100000 in
theorem mj_cw_192 : lw_tbl[(mj_mp 192).1]? = some (mj_cw 192) := rfl
set_option maxRecDepth 100000 in
theorem mj_cw_193 : lw_tbl[(mj_mp 193).1]? = some (mj_cw 193) := rfl
set_option maxRecDepth 100000 in
theorem mj_cw_194 : lw_tbl[(mj_mp 194).1]? = some (mj_cw 194) := rfl
set_option maxRecDepth 100000 in
theorem mj_cw_195 : lw_tbl[(mj_mp 195).1]? = some (mj_cw 195) := rfl
set_option maxRecDepth 100000 in
theorem mj_cw_196 : lw_tbl[(mj_mp 196).1]? = some (mj_cw 196) := rfl
set_option maxRecDepth 100000 in
theorem mj_cw_197 : lw_tbl[(mj_mp 197).1]? = some (mj_cw 197) := rfl
set_option maxRecDepth 100000 in
theorem mj_cw_198 : lw_tbl[(mj_mp 198).1]? = some (mj_cw 198) := rfl
set_option maxRecDepth 100000 in
theorem mj_cw_199 : lw_tbl[(mj_mp 199).1]? = some (mj_cw 199) := rfl
set_option maxRecDepth 100000 in
theorem mj_cw_200 : lw_tbl[(mj_mp 200).1]? = some (mj_cw 200) := rfl
set_option maxRecDepth 100000 in
theorem mj_cw_201 : lw_tbl[(mj_mp 201).1]? = some (mj_cw 201) := rfl
set_option maxRecDepth 100000 in
theorem mj_cw_202 : lw_tbl[(mj_mp 202).1]? = some (mj_cw 202) := rfl
set_option maxRecDepth 100000 in
theorem mj_cw_203 : lw_tbl[(mj_mp 203).1]? = some (mj_cw 203) := rfl
set_option maxRecDepth 100000 in
theorem mj_cw_204 : lw_tbl[(mj_mp 204).1]? = some (mj_cw 204) := rfl
set_option maxRecDepth 100000 in
theorem mj_cw_205 : lw_tbl[(mj_mp 205).1]? = some (mj_cw 205) := rfl
set_option maxRecDepth 100000 in
theorem mj_cw_206 : lw_tbl[(mj_mp 206).1]? = some (mj_cw 206) := rfl
set_option maxRecDepth 100000 in
theorem mj_cw_207 : lw_tbl[(mj_mp 207).1]? = some (mj_cw 207) := rfl
set_option maxRecDepth 100000 in
theorem mj_cw_208 : lw_tbl[(mj_mp 208).1]? = some (mj_cw 208) := rfl
set_option maxRecDepth 100000 in
theorem mj_cw_209 : lw_tbl[(mj_mp 209).1]? = some (mj_cw 209) := rfl
set_option maxRecDepth 100000 in
theorem mj_cw_210 : lw_tbl[(mj_mp 210).1]? = some (mj_cw 210) := rfl
set_option maxRecDepth 100000 in
theorem mj_cw_211 : lw_tbl[(mj_mp 211).1]? = some (mj_cw 211) := rfl
set_option maxRecDepth 100000 in
theorem mj_cw_212 : lw_tbl[(mj_mp 212).1]? = some (mj_cw 212) := rfl
set_option maxRecDepth 100000 in
theorem mj_cw_213 : lw_tbl[(mj_mp 213).1]? = some (mj_cw 213) := rfl
set_option maxRecDepth 100000 in
theorem mj_cw_214 : lw_tbl[(mj_mp 214).1]? = some (mj_cw 214) := rfl
set_option maxRecDepth 100000 in
theorem mj_cw_215 : lw_tbl[(mj_mp 215).1]? = some (mj_cw 215) := rfl
set_option maxRecDepth 100000 in
theorem mj_cw_216 : lw_tbl[(mj_mp 216).1]? = some (mj_cw 216) := rfl
set_option maxRecDepth 100000 in
theorem mj_cw_217 : lw_tbl[(mj_mp 217).1]? = some (mj_cw 217) := rfl
set_option maxRecDepth 100000 in
theorem mj_cw_218 : lw_tbl[(mj_mp 218).1]? = some (mj_cw 218) := rfl
set_option maxRecDepth 100000 in
theorem mj_cw_219 : lw_tbl[(mj_mp 219).1]? = some (mj_cw 219) := rfl
set_option maxRecDepth 100000 in
theorem mj_cw_220 : lw_tbl[(mj_mp 220).1]? = some (mj_cw 220) := rfl
set_option maxRecDepth 100000 in
theorem mj_cw_221 : lw_tbl[(mj_mp 221).1]? = some (mj_cw 221) := rfl
set_option maxRecDepth 100000 in
theorem mj_cw_222 : lw_tbl[(mj_mp 222).1]? = some (mj_cw 222) := rfl
set_option maxRecDepth 100000 in
theorem mj_cw_223 : lw_tbl[(mj_mp 223).1]? = some (mj_cw 223) := rfl
set_option maxRecDepth 100000 in
theorem mj_cw_224 : lw_tbl[(mj_mp 224).1]? = some (mj_cw 224) := rfl
set_option maxRecDepth 100000 in
theorem mj_cw_225 : lw_tbl[(mj_mp 225).1]? = some (mj_cw 225) := rfl
set_option maxRecDepth 100000 in
theorem mj_cw_226 : lw_tbl[(mj_mp 226).1]? = some (mj_cw 226) := rfl
set_option maxRecDepth 100000 in
theorem mj_cw_227 : lw_tbl[(mj_mp 227).1]? = some (mj_cw 227) := rfl
set_option maxRecDepth 100000 in
theorem mj_cw_228 : lw_tbl[(mj_mp 228).1]? = some (mj_cw 228) := rfl
set_option maxRecDepth 100000 in
theorem mj_cw_229 : lw_tbl[(mj_mp 229).1]? = some (mj_cw 229) := rfl
set_option maxRecDepth 100000 in
theorem mj_cw_230 : lw_tbl[(mj_mp 230).1]? = some (mj_cw 230) := rfl
set_option maxRecDepth 100000 in
theorem mj_cw_231 : lw_tbl[(mj_mp 231).1]? = some (mj_cw 231) := rfl
set_option maxRecDepth 100000 in
theorem mj_cw_232 : lw_tbl[(mj_mp 232).1]? = some (mj_cw 232) := rfl
set_option maxRecDepth 100000 in
theorem mj_cw_233 : lw_tbl[(mj_mp 233).1]? = some (mj_cw 233) := rfl
set_option maxRecDepth 100000 in
theorem mj_cw_234 : lw_tbl[(mj_mp 234).1]? = some (mj_cw 234) := rfl
set_option maxRecDepth 100000 in
theorem mj_cw_235 : lw_tbl[(mj_mp 235).1]? = some (mj_cw 235) := rfl
set_option maxRecDepth 100000 in
theorem mj_cw_236 : lw_tbl[(mj_mp 236).1]? = some (mj_cw 236) := rfl
set_option maxRecDepth 100000 in
theorem mj_cw_237 : lw_tbl[(mj_mp 237).1]? = some (mj_cw 237) := rfl
set_option maxRecDepth 100000 in
theorem mj_cw_238 : lw_tbl[(mj_mp 238).1]? = some (mj_cw 238) := rfl
set_option maxRecDepth 100000 in
theorem mj_cw_239 : lw_tbl[(mj_mp 239).1]? = some (mj_cw 239) := rfl
set_option maxRecDepth 100000 in
theorem mj_cw_240 : lw_tbl[(mj_mp 240).1]? = some (mj_cw 240) := rfl
set_option maxRecDepth 100000 in
theorem mj_cw_241 : lw_tbl[(mj_mp 241).1]? = some (mj_cw 241) := rfl
set_option maxRecDepth 100000 in
theorem mj_cw_242 : lw_tbl[(mj_mp 242).1]? = some (mj_cw 242) := rfl
set_option maxRecDepth 100000 in
theorem mj_cw_243 : lw_tbl[(mj_mp 243).1]? = some (mj_cw 243) := rfl
set_option maxRecDepth 100000 in
theorem mj_cw_244 : lw_tbl[(mj_mp 244).1]? = some (mj_cw 244) := rfl
set_option maxRecDepth 100000 in
theorem mj_cw_245 : lw_tbl[(mj_mp 245).1]? = some (mj_cw 245) := rfl
set_option maxRecDepth 100000 in
theorem mj_cw_246 : lw_tbl[(mj_mp 246).1]? = some (mj_cw 246) := rfl
set_option maxRecDepth 100000 in
theorem mj_cw_247 : lw_tbl[(mj_mp 247).1]? = some (mj_cw 247) := rfl
set_option maxRecDepth 100000 in
theorem mj_cw_248 : lw_tbl[(mj_mp 248).1]? = some (mj_cw 248) := rfl
set_option maxRecDepth 100000 in
theorem mj_cw_249 : lw_tbl[(mj_mp 249).1]? = some (mj_cw 249) := rfl
set_option maxRecDepth 100000 in
theorem mj_cw_250 : lw_tbl[(mj_mp 250).1]? = some (mj_cw 250) := rfl
set_option maxRecDepth 100000 in
theorem mj_cw_251 : lw_tbl[(mj_mp 251).1]? = some (mj_cw 251) := rfl
set_option maxRecDepth 100000 in
theorem mj_cw_252 : lw_tbl[(mj_mp 252).1]? = some (mj_cw 252) := rfl
set_option maxRecDepth 100000 in
theorem mj_cw_253 : lw_tbl[(mj_mp 253).1]? = some (mj_cw 253) := rfl
set_option maxRecDepth 100000 in
theorem mj_cw_254 : lw_tbl[(mj_mp 254).1]? = some (mj_cw 254) := rfl
set_option maxRecDepth 100000 in
theorem mj_cw_255 : lw_tbl[(mj_mp 255).1]? = some (mj_cw 255) := rfl
set_option maxRecDepth 100000 in
theorem mj_cw_256 : lw_tbl[(mj_mp 256).1]? = some (mj_cw 256) := rfl
set_option maxRecDepth 100000 in
theorem mj_cw_257 : lw_tbl[(mj_mp 257).1]? = some (mj_cw 257) := rfl
set_option maxRecDepth 100000 in
theorem mj_cw_258 : lw_tbl[(mj_mp 258).1]? = some (mj_cw 258) := rfl
set_option maxRecDepth 100000 in
theorem mj_cw_259 : lw_tbl[(mj_mp 259).1]? = some (mj_cw 259) := rfl
set_option maxRecDepth 100000 in
theorem mj_cw_260 : lw_tbl[(mj_mp 260).1]? = some (mj_cw 260) := rfl
set_option maxRecDepth 100000 in
theorem mj_cw_261 : lw_tbl[(mj_mp 261).1]? = some (mj_cw 261) := rfl
set_option maxRecDepth 100000 in
theorem mj_cw_262 : lw_tbl[(mj_mp 262).1]? = some (mj_cw 262) := rfl
set_option maxRecDepth 100000 in
theorem mj_cw_263 : lw_tbl[(mj_mp 263).1]? = some (mj_cw 263) := rfl
set_option maxRecDepth 100000 in
theorem mj_cw_264 : lw_tbl[(mj_mp 264).1]? = some (mj_cw 264) := rfl
set_option maxRecDepth 100000 in
theorem mj_cw_265 : lw_tbl[(mj_mp 265).1]? = some (mj_cw 265) := rfl
set_option maxRecDepth 100000 in
theorem mj_cw_266 : lw_tbl[(mj_mp 266).1]? = some (mj_cw 266) := rfl
set_option maxRecDepth 100000 in
theorem mj_cw_267 : lw_tbl[(mj_mp 267).1]? = some (mj_cw 267) := rfl
set_option maxRecDepth 100000 in
theorem mj_cw_268 : lw_tbl[(mj_mp 268).1]? = some (mj_cw 268) := rfl
set_option maxRecDepth 100000 in
theorem mj_cw_269 : lw_tbl[(mj_mp 269).1]? = some (mj_cw 269) := rfl
set_option maxRecDepth 100000 in
theorem mj_cw_270 : lw_tbl[(mj_mp 270).1]? = some (mj_cw 270) := rfl
set_option maxRecDepth 100000 in
theorem mj_cw_271 : lw_tbl[(mj_mp 271).1]? = some (mj_cw 271) := rfl
set_option maxRecDepth 100000 in
theorem mj_cw_272 : lw_tbl[(mj_mp 272).1]? = some (mj_cw 272) := rfl
set_option maxRecDepth 100000 in
theorem mj_cw_273 : lw_tbl[(mj_mp 273).1]? = some (mj_cw 273) := rfl
set_option maxRecDepth 100000 in
theorem mj_cw_274 : lw_tbl[(mj_mp 274).1]? = some (mj_cw 274) := rfl
set_option maxRecDepth 100000 in
theorem mj_cw_275 : lw_tbl[(mj_mp 275).1]? = some (mj_cw 275) := rfl
set_option maxRecDepth 100000 in
theorem mj_cw_276 : lw_tbl[(mj_mp 276).1]? = some (mj_cw 276) := rfl
set_option maxRecDepth 100000 in
theorem mj_cw_277 : lw_tbl[(mj_mp 277).1]? = some (mj_cw 277) := rfl
set_option maxRecDepth 100000 in
theorem mj_cw_278 : lw_tbl[(mj_mp 278).1]? = some (mj_cw 278) := rfl
set_option maxRecDepth 100000 in
theorem mj_cw_279 : lw_tbl[(mj_mp 279).1]? = some (mj_cw 279) := rfl
set_option maxRecDepth 100000 in
theorem mj_cw_280 : lw_tbl[(mj_mp 280).1]? = some (mj_cw 280) := rfl
set_option maxRecDepth 100000 in
theorem mj_cw_281 : lw_tbl[(mj_mp 281).1]? = some (mj_cw 281) := rfl
set_option maxRecDepth 100000 in
theorem mj_cw_282 : lw_tbl[(mj_mp 282).1]? = some (mj_cw 282) := rfl
set_option maxRecDepth 100000 in
theorem mj_cw_283 : lw_tbl[(mj_mp 283).1]? = some (mj_cw 283) := rfl
set_option maxRecDepth 100000 in
theorem mj_cw_284 : lw_tbl[(mj_mp 284).1]? = some (mj_cw 284) := rfl
set_option maxRecDepth 100000 in
theorem mj_cw_285 : lw_tbl[(mj_mp 285).1]? = some (mj_cw 285) := rfl
set_option maxRecDepth 100000 in
theorem mj_cw_286 : lw_tbl[(mj_mp 286).1]? = some (mj_cw 286) := rfl
set_option maxRecDepth 100000 in
theorem mj_cw_287 : lw_tbl[(mj_mp 287).1]? = some (mj_cw 287) := rfl
set_option maxRecDepth 100000 in
theorem mj_cw_288 : lw_tbl[(mj_mp 288).1]? = some (mj_cw 288) := rfl
set_option maxRecDepth 100000 in
theorem mj_cw_289 : lw_tbl[(mj_mp 289).1]? = some (mj_cw 289) := rfl
set_option maxRecDepth 100000 in
theorem mj_cw_290 : lw_tbl[(mj_mp 290).1]? = some (mj_cw 290) := rfl
set_option maxRecDepth 100000 in
theorem mj_cw_291 : lw_tbl[(mj_mp 291).1]? = some (mj_cw 291) := rfl
set_option maxRecDepth 100000 in
theorem mj_cw_292 : lw_tbl[(mj_mp 292).1]? = some (mj_cw 292) := rfl
set_option maxRecDepth 100000 in
theorem mj_cw_293 : lw_tbl[(mj_mp 293).1]? = some (mj_cw 293) := rfl
set_option maxRecDepth 100000 in
theorem mj_cw_294 : lw_tbl[(mj_mp 294).1]? = some (mj_cw 294) := rfl
set_option maxRecDepth 100000 in
theorem mj_cw_295 : lw_tbl[(mj_mp 295).1]? = some (mj_cw 295) := rfl
set_option maxRecDepth 100000 in
theorem mj_cw_296 : lw_tbl[(mj_mp 296).1]? = some (mj_cw 296) := rfl
set_option maxRecDepth 100000 in
theorem mj_cw_297 : lw_tbl[(mj_mp 297).1]? = some (mj_cw 297) := rfl
set_option maxRecDepth 100000 in
theorem mj_cw_298 : lw_tbl[(mj_mp 298).1]? = some (mj_cw 298) := rfl
set_option maxRecDepth 100000 in
theorem mj_cw_299 : lw_tbl[(mj_mp 299).1]? = some (mj_cw 299) := rfl
set_option maxRecDepth 100000 in
theorem mj_cw_300 : lw_tbl[(mj_mp 300).1]? = some (mj_cw 300) := rfl
set_option maxRecDepth 100000 in
theorem mj_cw_301 : lw_tbl[(mj_mp 301).1]? = some (mj_cw 301) := rfl
set_option maxRecDepth 100000 in
theorem mj_cw_302 : lw_tbl[(mj_mp 302).1]? = some (mj_cw 302) := rfl
set_option maxRecDepth 100000 in
theorem mj_cw_303 : lw_tbl[(mj_mp 303).1]? = some (mj_cw 303) := rfl
set_option maxRecDepth 100000 in
theorem mj_cw_304 : lw_tbl[(mj_mp 304).1]? = some (mj_cw 304) := rfl
set_option maxRecDepth 100000 in
theorem mj_cw_305 : lw_tbl[(mj_mp 305).1]? = some (mj_cw 305) := rfl
set_option maxRecDepth 100000 in
theorem mj_cw_306 : lw_tbl[(mj_mp 306).1]? = some (mj_cw 306) := rfl
set_option maxRecDepth 100000 in
theorem mj_cw_307 : lw_tbl[(mj_mp 307).1]? = some (mj_cw 307) := rfl
set_option maxRecDepth 100000 in
theorem mj_cw_308 : lw_tbl[(mj_mp 308).1]? = some (mj_cw 308) := rfl
set_option maxRecDepth 100000 in
theorem mj_cw_309 : lw_tbl[(mj_mp 309).1]? = some (mj_cw 309) := rfl
set_option maxRecDepth 100000 in
theorem mj_cw_310 : lw_tbl[(mj_mp 310).1]? = some (mj_cw 310) := rfl
set_option maxRecDepth 100000 in
theorem mj_cw_311 : lw_tbl[(mj_mp 311).1]? = some (mj_cw 311) := rfl
set_option maxRecDepth 100000 in
theorem mj_cw_312 : lw_tbl[(mj_mp 312).1]? = some (mj_cw 312) := rfl
set_option maxRecDepth 100000 in
theorem mj_cw_313 : lw_tbl[(mj_mp 313).1]? = some (mj_cw 313) := rfl
theorem mj_cwc_0 (cy : Nat) (h1 : 0 ≤ cy) (h2 : cy < 10) : lw_tbl[(mj_mp cy).1]? = some (mj_cw cy) := by
  have h : cy = 0 ∨ cy = 1 ∨ cy = 2 ∨ cy = 3 ∨ cy = 4 ∨ cy = 5 ∨ cy = 6 ∨ cy = 7 ∨ cy = 8 ∨ cy = 9 := by omega
  rcases h with rfl | rfl | rfl | rfl | rfl | rfl | rfl | rfl | rfl | rfl
  · exact mj_cw_0
  · exact mj_cw_1
  · exact mj_cw_2
  · exact mj_cw_3
  · exact mj_cw_4
  · exact mj_cw_5
  · exact mj_cw_6
  · exact mj_cw_7
  · exact mj_cw_8
  · exact mj_cw_9
theorem mj_cwc_10 (cy : Nat) (h1 : 10 ≤ cy) (h2 : cy < 20) : lw_tbl[(mj_mp cy).1]? = some (mj_cw cy) := by
  have h : cy = 10 ∨ cy = 11 ∨ cy = 12 ∨ cy = 13 ∨ cy = 14 ∨ cy = 15 ∨ cy = 16 ∨ cy = 17 ∨ cy = 18 ∨ cy = 19 := by omega
  rcases h with rfl | rfl | rfl | rfl | rfl | rfl | rfl | rfl | rfl | rfl
  · exact mj_cw_10
  · exact mj_cw_11
  · exact mj_cw_12
  · exact mj_cw_13
  · exact mj_cw_14
  · exact mj_cw_15
  · exact mj_cw_16
  · exact mj_cw_17
  · exact mj_cw_18
  · exact mj_cw_19
theorem mj_cwc_20 (cy : Nat) (h1 : 20 ≤ cy) (h2 : cy < 30) : lw_tbl[(mj_mp cy).1]? = some (mj_cw cy) := by
  have h : cy = 20 ∨ cy = 21 ∨ cy = 22 ∨ cy = 23 ∨ cy = 24 ∨ cy = 25 ∨ cy = 26 ∨ cy = 27 ∨ cy = 28 ∨ cy = 29 := by omega
  rcases h with rfl | rfl | rfl | rfl | rfl | rfl | rfl | rfl | rfl | rfl
  · exact mj_cw_20
  · exact mj_cw_21
  · exact mj_cw_22
  · exact mj_cw_23
  · exact mj_cw_24
  · exact mj_cw_25
  · exact mj_cw_26
  · exact mj_cw_27
  · exact mj_cw_28
  · exact mj_cw_29
theorem mj_cwc_30 (cy : Nat) (h1 : 30 ≤ cy) (h2 : cy < 40) : lw_tbl[(mj_mp cy).1]? = some (mj_cw cy) := by
  have h : cy = 30 ∨ cy = 31 ∨ cy = 32 ∨ cy = 33 ∨ cy = 34 ∨ cy = 35 ∨ cy = 36 ∨ cy = 37 ∨ cy = 38 ∨ cy = 39 := by omega
  rcases h with rfl | rfl | rfl | rfl | rfl | rfl | rfl | rfl | rfl | rfl
  · exact mj_cw_30
  · exact mj_cw_31
  · exact mj_cw_32
  · exact mj_cw_33
  · exact mj_cw_34
  · exact mj_cw_35
  · exact mj_cw_36
  · exact mj_cw_37
  · exact mj_cw_38
  · exact mj_cw_39
theorem mj_cwc_40 (cy : Nat) (h1 : 40 ≤ cy) (h2 : cy < 50) : lw_tbl[(mj_mp cy).1]? = some (mj_cw cy) := by
  have h : cy = 40 ∨ cy = 41 ∨ cy = 42 ∨ cy = 43 ∨ cy = 44 ∨ cy = 45 ∨ cy = 46 ∨ cy = 47 ∨ cy = 48 ∨ cy = 49 := by omega
  rcases h with rfl | rfl | rfl | rfl | rfl | rfl | rfl | rfl | rfl | rfl
  · exact mj_cw_40
  · exact mj_cw_41
  · exact mj_cw_42
  · exact mj_cw_43
  · exact mj_cw_44
  · exact mj_cw_45
  · exact mj_cw_46
  · exact mj_cw_47
  · exact mj_cw_48
  · exact mj_cw_49
theorem mj_cwc_50 (cy : Nat) (h1 : 50 ≤ cy) (h2 : cy < 60) : lw_tbl[(mj_mp cy).1]? = some (mj_cw cy) := by
  have h : cy = 50 ∨ cy = 51 ∨ cy = 52 ∨ cy = 53 ∨ cy = 54 ∨ cy = 55 ∨ cy = 56 ∨ cy = 57 ∨ cy = 58 ∨ cy = 59 := by omega
  rcases h with rfl | rfl | rfl | rfl | rfl | rfl | rfl | rfl | rfl | rfl
  · exact mj_cw_50
  · exact mj_cw_51
  · exact mj_cw_52
  · exact mj_cw_53
  · exact mj_cw_54
  · exact mj_cw_55
  · exact mj_cw_56
  · exact mj_cw_57
  · exact mj_cw_58
  · exact mj_cw_59
theorem mj_cwc_60 (cy : Nat) (h1 : 60 ≤ cy) (h2 : cy < 70) : lw_tbl[(mj_mp cy).1]? = some (mj_cw cy) := by
  have h : cy = 60 ∨ cy = 61 ∨ cy = 62 ∨ cy = 63 ∨ cy = 64 ∨ cy = 65 ∨ cy = 66 ∨ cy = 67 ∨ cy = 68 ∨ cy = 69 := by omega
  rcases h with rfl | rfl | rfl | rfl | rfl | rfl | rfl | rfl | rfl | rfl
  · exact mj_cw_60
  · exact mj_cw_61
  · exact mj_cw_62
  · exact mj_cw_63
  · exact mj_cw_64
  · exact mj_cw_65
  · exact mj_cw_66
  · exact mj_cw_67
  · exact mj_cw_68
  · exact mj_cw_69
theorem mj_cwc_70 (cy : Nat) (h1 : 70 ≤ cy) (h2 : cy < 80) : lw_tbl[(mj_mp cy).1]? = some (mj_cw cy) := by
  have h : cy = 70 ∨ cy = 71 ∨ cy = 72 ∨ cy = 73 ∨ cy = 74 ∨ cy = 75 ∨ cy = 76 ∨ cy = 77 ∨ cy = 78 ∨ cy = 79 := by omega
  rcases h with rfl | rfl | rfl | rfl | rfl | rfl | rfl | rfl | rfl | rfl
  · exact mj_cw_70
  · exact mj_cw_71
  · exact mj_cw_72
  · exact mj_cw_73
  · exact mj_cw_74
  · exact mj_cw_75
  · exact mj_cw_76
  · exact mj_cw_77
  · exact mj_cw_78
  · exact mj_cw_79
theorem mj_cwc_80 (cy : Nat) (h1 : 80 ≤ cy) (h2 : cy < 90) : lw_tbl[(mj_mp cy).1]? = some (mj_cw cy) := by
  have h : cy = 80 ∨ cy = 81 ∨ cy = 82 ∨ cy = 83 ∨ cy = 84 ∨ cy = 85 ∨ cy = 86 ∨ cy = 87 ∨ cy = 88 ∨ cy = 89 := by omega
  rcases h with rfl | rfl | rfl | rfl | rfl | rfl | rfl | rfl | rfl | rfl
  · exact mj_cw_80
  · exact mj_cw_81
  · exact mj_cw_82
  · exact mj_cw_83
  · exact mj_cw_84
  · exact mj_cw_85
  · exact mj_cw_86
  · exact mj_cw_87
  · exact mj_cw_88
  · exact mj_cw_89
theorem mj_cwc_90 (cy : Nat) (h1 : 90 ≤ cy) (h2 : cy < 100) : lw_tbl[(mj_mp cy).1]? = some (mj_cw cy) := by
  have h : cy = 90 ∨ cy = 91 ∨ cy = 92 ∨ cy = 93 ∨ cy = 94 ∨ cy = 95 ∨ cy = 96 ∨ cy = 97 ∨ cy = 98 ∨ cy = 99 := by omega
  rcases h with rfl | rfl | rfl | rfl | rfl | rfl | rfl | rfl | rfl | rfl
  · exact mj_cw_90
  · exact mj_cw_91
  · exact mj_cw_92
  · exact mj_cw_93
  · exact mj_cw_94
  · exact mj_cw_95
  · exact mj_cw_96
  · exact mj_cw_97
  · exact mj_cw_98
  · exact mj_cw_99
theorem mj_cwc_100 (cy : Nat) (h1 : 100 ≤ cy) (h2 : cy < 110) : lw_tbl[(mj_mp cy).1]? = some (mj_cw cy) := by
  have h : cy = 100 ∨ cy = 101 ∨ cy = 102 ∨ cy = 103 ∨ cy = 104 ∨ cy = 105 ∨ cy = 106 ∨ cy = 107 ∨ cy = 108 ∨ cy = 109 := by omega
  rcases h with rfl | rfl | rfl | rfl | rfl | rfl | rfl | rfl | rfl | rfl
  · exact mj_cw_100
  · exact mj_cw_101
  · exact mj_cw_102
  · exact mj_cw_103
  · exact mj_cw_104
  · exact mj_cw_105
  · exact mj_cw_106
  · exact mj_cw_107
  · exact mj_cw_108
  · exact mj_cw_109
theorem mj_cwc_110 (cy : Nat) (h1 : 110 ≤ cy) (h2 : cy < 120) : lw_tbl[(mj_mp cy).1]? = some (mj_cw cy) := by
  have h : cy = 110 ∨ cy = 111 ∨ cy = 112 ∨ cy = 113 ∨ cy = 114 ∨ cy = 115 ∨ cy = 116 ∨ cy = 117 ∨ cy = 118 ∨ cy = 119 := by omega
  rcases h with rfl | rfl | rfl | rfl | rfl | rfl | rfl | rfl | rfl | rfl
  · exact mj_cw_110
  · exact mj_cw_111
  · exact mj_cw_112
  · exact mj_cw_113
  · exact mj_cw_114
  · exact mj_cw_115
  · exact mj_cw_116
  · exact mj_cw_117
  · exact mj_cw_118
  · exact mj_cw_119
theorem mj_cwc_120 (cy : Nat) (h1 : 120 ≤ cy) (h2 : cy < 130) : lw_tbl[(mj_mp cy).1]? = some (mj_cw cy) := by
  have h : cy = 120 ∨ cy = 121 ∨ cy = 122 ∨ cy = 123 ∨ cy = 124 ∨ cy = 125 ∨ cy = 126 ∨ cy = 127 ∨ cy = 128 ∨ cy = 129 := by omega
  rcases h with rfl | rfl | rfl | rfl | rfl | rfl | rfl | rfl | rfl | rfl
  · exact mj_cw_120
  · exact mj_cw_121
  · exact mj_cw_122
  · exact mj_cw_123
  · exact mj_cw_124
  · exact mj_cw_125
  · exact mj_cw_126
  · exact mj_cw_127
  · exact mj_cw_128
  · exact mj_cw_129
theorem mj_cwc_130 (cy : Nat) (h1 : 130 ≤ cy) (h2 : cy < 140) : lw_tbl[(mj_mp cy).1]? = some (mj_cw cy) := by
  have h : cy = 130 ∨ cy = 131 ∨ cy = 132 ∨ cy = 133 ∨ cy = 134 ∨ cy = 135 ∨ cy = 136 ∨ cy = 137 ∨ cy = 138 ∨ cy = 139 := by omega
  rcases h with rfl | rfl | rfl | rfl | rfl | rfl | rfl | rfl | rfl | rfl
  · exact mj_cw_130
  · exact mj_cw_131
  · exact mj_cw_132
  · exact mj_cw_133
  · exact mj_cw_134
  · exact mj_cw_135
  · exact mj_cw_136
  · exact mj_cw_137
  · exact mj_cw_138
  · exact mj_cw_139
theorem mj_cwc_140 (cy : Nat) (h1 : 140 ≤ cy) (h2 : cy < 150) : lw_tbl[(mj_mp cy).1]? = some (mj_cw cy) := by
  have h : cy = 140 ∨ cy = 141 ∨ cy = 142 ∨ cy = 143 ∨ cy = 144 ∨ cy = 145 ∨ cy = 146 ∨ cy = 147 ∨ cy = 148 ∨ cy = 149 := by omega
  rcases h with rfl | rfl | rfl | rfl | rfl | rfl | rfl | rfl | rfl | rfl
  · exact mj_cw_140
  · exact mj_cw_141
  · exact mj_cw_142
  · exact mj_cw_143
  · exact mj_cw_144
  · exact mj_cw_145
  · exact mj_cw_146
  · exact mj_cw_147
  · exact mj_cw_148
  · exact mj_cw_149
theorem mj_cwc_150 (cy : Nat) (h1 : 150 ≤ cy) (h2 : cy < 160) : lw_tbl[(mj_mp cy).1]? = some (mj_cw cy) := by
  have h : cy = 150 ∨ cy = 151 ∨ cy = 152 ∨ cy = 153 ∨ cy = 154 ∨ cy = 155 ∨ cy = 156 ∨ cy = 157 ∨ cy = 158 ∨ cy = 159 := by omega
  rcases h with rfl | rfl | rfl | rfl | rfl | rfl | rfl | rfl | rfl | rfl
  · exact mj_cw_150
  · exact mj_cw_151
  · exact mj_cw_152
  · exact mj_cw_153
  · exact mj_cw_154
  · exact mj_cw_155
  · exact mj_cw_156
  · exact mj_cw_157
  · exact mj_cw_158
  · exact mj_cw_159
theorem mj_cwc_160 (cy : Nat) (h1 : 160 ≤ cy) (h2 : cy < 170) : lw_tbl[(mj_mp cy).1]? = some (mj_cw cy) := by
  have h : cy = 160 ∨ cy = 161 ∨ cy = 162 ∨ cy = 163 ∨ cy = 164 ∨ cy = 165 ∨ cy = 166 ∨ cy = 167 ∨ cy = 168 ∨ cy = 169 := by omega
  rcases h with rfl | rfl | rfl | rfl | rfl | rfl | rfl | rfl | rfl | rfl
  · exact mj_cw_160
  · exact mj_cw_161
  · exact mj_cw_162
  · exact mj_cw_163
  · exact mj_cw_164
  · exact mj_cw_165
  · exact mj_cw_166
  · exact mj_cw_167
  · exact mj_cw_168
  · exact mj_cw_169
theorem mj_cwc_170 (cy : Nat) (h1 : 170 ≤ cy) (h2 : cy < 180) : lw_tbl[(mj_mp cy).1]? = some (mj_cw cy) := by
  have h : cy = 170 ∨ cy = 171 ∨ cy = 172 ∨ cy = 173 ∨ cy = 174 ∨ cy = 175 ∨ cy = 176 ∨ cy = 177 ∨ cy = 178 ∨ cy = 179 := by omega
  rcases h with rfl | rfl | rfl | rfl | rfl | rfl | rfl | rfl | rfl | rfl
  · exact mj_cw_170
  · exact mj_cw_171
  · exact mj_cw_172
  · exact mj_cw_173
  · exact mj_cw_174
  · exact mj_cw_175
  · exact mj_cw_176
  · exact mj_cw_177
  · exact mj_cw_178
  · exact mj_cw_179
theorem mj_cwc_180 (cy : Nat) (h1 : 180 ≤ cy) (h2 : cy < 190) : lw_tbl[(mj_mp cy).1]? = some (mj_cw cy) := by
  have h : cy = 180 ∨ cy = 181 ∨ cy = 182 ∨ cy = 183 ∨ cy = 184 ∨ cy = 185 ∨ cy = 186 ∨ cy = 187 ∨ cy = 188 ∨ cy = 189 := by omega
  rcases h with rfl | rfl | rfl | rfl | rfl | rfl | rfl | rfl | rfl | rfl
  · exact mj_cw_180
  · exact mj_cw_181
  · exact mj_cw_182
  · exact mj_cw_183
  · exact mj_cw_184
  · exact mj_cw_185
  · exact mj_cw_186
  · exact mj_cw_187
  · exact mj_cw_188
  · exact mj_cw_189
theorem mj_cwc_190 (cy : Nat) (h1 : 190 ≤ cy) (h2 : cy < 200) : lw_tbl[(mj_mp cy).1]? = some (mj_cw cy) := by
  have h : cy = 190 ∨ cy = 191 ∨ cy = 192 ∨ cy = 193 ∨ cy = 194 ∨ cy = 195 ∨ cy = 196 ∨ cy = 197 ∨ cy = 198 ∨ cy = 199 := by omega
  rcases h with rfl | rfl | rfl | rfl | rfl | rfl | rfl | rfl | rfl | rfl
  · exact mj_cw_190
  · exact mj_cw_191
  · exact mj_cw_192
  · exact mj_cw_193
  · exact mj_cw_194
  · exact mj_cw_195
  · exact mj_cw_196
  · exact mj_cw_197
  · exact mj_cw_198
  · exact mj_cw_199
theorem mj_cwc_200 (cy : Nat) (h1 : 200 ≤ cy) (h2 : cy < 210) : lw_tbl[(mj_mp cy).1]? = some (mj_cw cy) := by
  have h : cy = 200 ∨ cy = 201 ∨ cy = 202 ∨ cy = 203 ∨ cy = 204 ∨ cy = 205 ∨ cy = 206 ∨ cy = 207 ∨ cy = 208 ∨ cy = 209 := by omega
  rcases h with rfl | rfl | rfl | rfl | rfl | rfl | rfl | rfl | rfl | rfl
  · exact mj_cw_200
  · exact mj_cw_201
  · exact mj_cw_202
  · exact mj_cw_203
  · exact mj_cw_204
  · exact mj_cw_205
  · exact mj_cw_206
  · exact mj_cw_207
  · exact mj_cw_208
  · exact mj_cw_209
theorem mj_cwc_210 (cy : Nat) (h1 : 210 ≤ cy) (h2 : cy < 220) : lw_tbl[(mj_mp cy).1]? = some (mj_cw cy) := by
  have h : cy = 210 ∨ cy = 211 ∨ cy = 212 ∨ cy = 213 ∨ cy = 214 ∨ cy = 215 ∨ cy = 216 ∨ cy = 217 ∨ cy = 218 ∨ cy = 219 := by omega
  rcases h with rfl | rfl | rfl | rfl | rfl | rfl | rfl | rfl | rfl | rfl
  · exact mj_cw_210
  · exact mj_cw_211
  · exact mj_cw_212
  · exact mj_cw_213
  · exact mj_cw_214
  · exact mj_cw_215
  · exact mj_cw_216
  · exact mj_cw_217
  · exact mj_cw_218
  · exact mj_cw_219
theorem mj_cwc_220 (cy : Nat) (h1 : 220 ≤ cy) (h2 : cy < 230) : lw_tbl[(mj_mp cy).1]? = some (mj_cw cy) := by
  have h : cy = 220 ∨ cy = 221 ∨ cy = 222 ∨ cy = 223 ∨ cy = 224 ∨ cy = 225 ∨ cy = 226 ∨ cy = 227 ∨ cy = 228 ∨ cy = 229 := by omega
  rcases h with rfl | rfl | rfl | rfl | rfl | rfl | rfl | rfl | rfl | rfl
  · exact mj_cw_220
  · exact mj_cw_221
  · exact mj_cw_222
  · exact mj_cw_223
  · exact mj_cw_224
  · exact mj_cw_225
  · exact mj_cw_226
  · exact mj_cw_227
  · exact mj_cw_228
  · exact mj_cw_229
theorem mj_cwc_230 (cy : Nat) (h1 : 230 ≤ cy) (h2 : cy < 240) : lw_tbl[(mj_mp cy).1]? = some (mj_cw cy) := by
  have h : cy = 230 ∨ cy = 231 ∨ cy = 232 ∨ cy = 233 ∨ cy = 234 ∨ cy = 235 ∨ cy = 236 ∨ cy = 237 ∨ cy = 238 ∨ cy = 239 := by omega
  rcases h with rfl | rfl | rfl | rfl | rfl | rfl | rfl | rfl | rfl | rfl
  · exact mj_cw_230
  · exact mj_cw_231
  · exact mj_cw_232
  · exact mj_cw_233
  · exact mj_cw_234
  · exact mj_cw_235
  · exact mj_cw_236
  · exact mj_cw_237
  · exact mj_cw_238
  · exact mj_cw_239
theorem mj_cwc_240 (cy : Nat) (h1 : 240 ≤ cy) (h2 : cy < 250) : lw_tbl[(mj_mp cy).1]? = some (mj_cw cy) := by
  have h : cy = 240 ∨ cy = 241 ∨ cy = 242 ∨ cy = 243 ∨ cy = 244 ∨ cy = 245 ∨ cy = 246 ∨ cy = 247 ∨ cy = 248 ∨ cy = 249 := by omega
  rcases h with rfl | rfl | rfl | rfl | rfl | rfl | rfl | rfl | rfl | rfl
  · exact mj_cw_240
  · exact mj_cw_241
  · exact mj_cw_242
  · exact mj_cw_243
  · exact mj_cw_244
  · exact mj_cw_245
  · exact mj_cw_246
  · exact mj_cw_247
  · exact mj_cw_248
  · exact mj_cw_249
theorem mj_cwc_250 (cy : Nat) (h1 : 250 ≤ cy) (h2 : cy < 260) : lw_tbl[(mj_mp cy).1]? = some (mj_cw cy) := by
  have h : cy = 250 ∨ cy = 251 ∨ cy = 252 ∨ cy = 253 ∨ cy = 254 ∨ cy = 255 ∨ cy = 256 ∨ cy = 257 ∨ cy = 258 ∨ cy = 259 := by omega
  rcases h with rfl | rfl | rfl | rfl | rfl | rfl | rfl | rfl | rfl | rfl
  · exact mj_cw_250
  · exact mj_cw_251
  · exact mj_cw_252
  · exact mj_cw_253
  · exact mj_cw_254
  · exact mj_cw_255
  · exact mj_cw_256
  · exact mj_cw_257
  · exact mj_cw_258
  · exact mj_cw_259
theorem mj_cwc_260 (cy : Nat) (h1 : 260 ≤ cy) (h2 : cy < 270) : lw_tbl[(mj_mp cy).1]? = some (mj_cw cy) := by
  have h : cy = 260 ∨ cy = 261 ∨ cy = 262 ∨ cy = 263 ∨ cy = 264 ∨ cy = 265 ∨ cy = 266 ∨ cy = 267 ∨ cy = 268 ∨ cy = 269 := by omega
  rcases h with rfl | rfl | rfl | rfl | rfl | rfl | rfl | rfl | rfl | rfl
  · exact mj_cw_260
  · exact mj_cw_261
  · exact mj_cw_262
  · exact mj_cw_263
  · exact mj_cw_264
  · exact mj_cw_265
  · exact mj_cw_266
  · exact mj_cw_267
  · exact mj_cw_268
  · exact mj_cw_269
theorem mj_cwc_270 (cy : Nat) (h1 : 270 ≤ cy) (h2 : cy < 280) : lw_tbl[(mj_mp cy).1]? = some (mj_cw cy) := by
  have h : cy = 270 ∨ cy = 271 ∨ cy = 272 ∨ cy = 273 ∨ cy = 274 ∨ cy = 275 ∨ cy = 276 ∨ cy = 277 ∨ cy = 278 ∨ cy = 279 := by omega
  rcases h with rfl | rfl | rfl | rfl | rfl | rfl | rfl | rfl | rfl | rfl
  · exact mj_cw_270
  · exact mj_cw_271
  · exact mj_cw_272
  · exact mj_cw_273
  · exact mj_cw_274
  · exact mj_cw_275
  · exact mj_cw_276
  · exact mj_cw_277
  · exact mj_cw_278
  · exact mj_cw_279
theorem mj_cwc_280 (cy : Nat) (h1 : 280 ≤ cy) (h2 : cy < 290) : lw_tbl[(mj_mp cy).1]? = some (mj_cw cy) := by
  have h : cy = 280 ∨ cy = 281 ∨ cy = 282 ∨ cy = 283 ∨ cy = 284 ∨ cy = 285 ∨ cy = 286 ∨ cy = 287 ∨ cy = 288 ∨ cy = 289 := by omega
  rcases h with rfl | rfl | rfl | rfl | rfl | rfl | rfl | rfl | rfl | rfl
  · exact mj_cw_280
  · exact mj_cw_281
  · exact mj_cw_282
  · exact mj_cw_283
  · exact mj_cw_284
  · exact mj_cw_285
  · exact mj_cw_286
  · exact mj_cw_287
  · exact mj_cw_288
  · exact mj_cw_289
theorem mj_cwc_290 (cy : Nat) (h1 : 290 ≤ cy) (h2 : cy < 300) : lw_tbl[(mj_mp cy).1]? = some (mj_cw cy) := by
  have h : cy = 290 ∨ cy = 291 ∨ cy = 292 ∨ cy = 293 ∨ cy = 294 ∨ cy = 295 ∨ cy = 296 ∨ cy = 297 ∨ cy = 298 ∨ cy = 299 := by omega
  rcases h with rfl | rfl | rfl | rfl | rfl | rfl | rfl | rfl | rfl | rfl
  · exact mj_cw_290
  · exact mj_cw_291
  · exact mj_cw_292
  · exact mj_cw_293
  · exact mj_cw_294
  · exact mj_cw_295
  · exact mj_cw_296
  · exact mj_cw_297
  · exact mj_cw_298
  · exact mj_cw_299
theorem mj_cwc_300 (cy : Nat) (h1 : 300 ≤ cy) (h2 : cy < 310) : lw_tbl[(mj_mp cy).1]? = some (mj_cw cy) := by
  have h : cy = 300 ∨ cy = 301 ∨ cy = 302 ∨ cy = 303 ∨ cy = 304 ∨ cy = 305 ∨ cy = 306 ∨ cy = 307 ∨ cy = 308 ∨ cy = 309 := by omega
  rcases h with rfl | rfl | rfl | rfl | rfl | rfl | rfl | rfl | rfl | rfl
  · exact mj_cw_300
  · exact mj_cw_301
  · exact mj_cw_302
  · exact mj_cw_303
  · exact mj_cw_304
  · exact mj_cw_305
  · exact mj_cw_306
  · exact mj_cw_307
  · exact mj_cw_308
  · exact mj_cw_309
theorem mj_cwc_310 (cy : Nat) (h1 : 310 ≤ cy) (h2 : cy < 314) : lw_tbl[(mj_mp cy).1]? = some (mj_cw cy) := by
  have h : cy = 310 ∨ cy = 311 ∨ cy = 312 ∨ cy = 313 := by omega
  rcases h with rfl | rfl | rfl | rfl
  · exact mj_cw_310
  · exact mj_cw_311
  · exact mj_cw_312
  · exact mj_cw_313
theorem mj_cw_at {cy : Nat} (h : cy < 314) : lw_tbl[(mj_mp cy).1]? = some (mj_cw cy) := by
  rcases Nat.lt_or_ge cy 10 with q10 | q10
  · exact mj_cwc_0 cy (by omega) q10
  rcases Nat.lt_or_ge cy 20 with q20 | q20
  · exact mj_cwc_10 cy (by omega) q20
  rcases Nat.lt_or_ge cy 30 with q30 | q30
  · exact mj_cwc_20 cy (by omega) q30
  rcases Nat.lt_or_ge cy 40 with q40 | q40
  · exact mj_cwc_30 cy (by omega) q40
  rcases Nat.lt_or_ge cy 50 with q50 | q50
  · exact mj_cwc_40 cy (by omega) q50
  rcases Nat.lt_or_ge cy 60 with q60 | q60
  · exact mj_cwc_50 cy (by omega) q60
  rcases Nat.lt_or_ge cy 70 with q70 | q70
  · exact mj_cwc_60 cy (by omega) q70
  rcases Nat.lt_or_ge cy 80 with q80 | q80
  · exact mj_cwc_70 cy (by omega) q80
  rcases Nat.lt_or_ge cy 90 with q90 | q90
  · exact mj_cwc_80 cy (by omega) q90
  rcases Nat.lt_or_ge cy 100 with q100 | q100
  · exact mj_cwc_90 cy (by omega) q100
  rcases Nat.lt_or_ge cy 110 with q110 | q110
  · exact mj_cwc_100 cy (by omega) q110
  rcases Nat.lt_or_ge cy 120 with q120 | q120
  · exact mj_cwc_110 cy (by omega) q120
  rcases Nat.lt_or_ge cy 130 with q130 | q130
  · exact mj_cwc_120 cy (by omega) q130
  rcases Nat.lt_or_ge cy 140 with q140 | q140
  · exact mj_cwc_130 cy (by omega) q140
  rcases Nat.lt_or_ge cy 150 with q150 | q150
  · exact mj_cwc_140 cy (by omega) q150
  rcases Nat.lt_or_ge cy 160 with q160 | q160
  · exact mj_cwc_150 cy (by omega) q160
  rcases Nat.lt_or_ge cy 170 with q170 | q170
  · exact mj_cwc_160 cy (by omega) q170
  rcases Nat.lt_or_ge cy 180 with q180 | q180
  · exact mj_cwc_170 cy (by omega) q180
  rcases Nat.lt_or_ge cy 190 with q190 | q190
  · exact mj_cwc_180 cy (by omega) q190
  rcases Nat.lt_or_ge cy 200 with q200 | q200
  · exact mj_cwc_190 cy (by omega) q200
  rcases Nat.lt_or_ge cy 210 with q210 | q210
  · exact mj_cwc_200 cy (by omega) q210
  rcases Nat.lt_or_ge cy 220 with q220 | q220
  · exact mj_cwc_210 cy (by omega) q220
  rcases Nat.lt_or_ge cy 230 with q230 | q230
  · exact mj_cwc_220 cy (by omega) q230
  rcases Nat.lt_or_ge cy 240 with q240 | q240
  · exact mj_cwc_230 cy (by omega) q240
  rcases Nat.lt_or_ge cy 250 with q250 | q250
  · exact mj_cwc_240 cy (by omega) q250
  rcases Nat.lt_or_ge cy 260 with q260 | q260
  · exact mj_cwc_250 cy (by omega) q260
  rcases Nat.lt_or_ge cy 270 with q270 | q270
  · exact mj_cwc_260 cy (by omega) q270
  rcases Nat.lt_or_ge cy 280 with q280 | q280
  · exact mj_cwc_270 cy (by omega) q280
  rcases Nat.lt_or_ge cy 290 with q290 | q290
  · exact mj_cwc_280 cy (by omega) q290
  rcases Nat.lt_or_ge cy 300 with q300 | q300
  · exact mj_cwc_290 cy (by omega) q300
  rcases Nat.lt_or_ge cy 310 with q310 | q310
  · exact mj_cwc_300 cy (by omega) q310
  exact mj_cwc_310 cy (by omega) h
theorem mj_cw_oi : Cond.code Lib.objectInit ⟨#[0xb1]⟩ 1 none ∈ lw_t2 := mj_t2 (q := 187) (by decide +kernel) rfl
theorem mj_cw_max : Cond.code Lib.Math.max.name Lib.Math.max.code 2 (some .int) ∈ lw_t2 := mj_t2 (q := 649) (by decide +kernel) rfl
theorem mj_cw_min : Cond.code Lib.Math.min.name Lib.Math.min.code 2 (some .int) ∈ lw_t2 := mj_t2 (q := 575) (by decide +kernel) rfl
theorem mj_cw_abs : Cond.code Lib.Math.abs.name Lib.Math.abs.code 1 (some .int) ∈ lw_t2 := mj_t2 (q := 851) (by decide +kernel) rfl
