/-! A RUN OF THE SMALL MACHINE IS A RUN OF THE MACHINE -/
def zeok (mi : Nat) (e : ZE) : Bool := decide (decode (zbt mi) e.1 = .ok (e.2.1, zdl e.2.1 e.2.2.1 e.1)) && (Nat.beq e.2.2.1 (e.1 + zdl e.2.1 e.2.2.1 e.1) && zaxok mi e.1 e.2.1 e.2.2.2.2)
theorem zall_app {a b : List ZE} {f : ZE → Bool} (h1 : a.all f = true) (h2 : b.all f = true) : (a ++ b).all f = true := by rw [List.all_append, h1, h2]; rfl
set_option maxRecDepth 100000 in
theorem zk_0 : (zcodes 0).all (zeok 0) = true := by decide +kernel
set_option maxRecDepth 100000 in
theorem zk_1 : (zcodes 1).all (zeok 1) = true := by decide +kernel
set_option maxRecDepth 100000 in
theorem zk_2 : (zcodes 2).all (zeok 2) = true := by decide +kernel
set_option maxRecDepth 100000 in
theorem zk_3 : (zcodes 3).all (zeok 3) = true := by decide +kernel
set_option maxRecDepth 100000 in
theorem zk_4 : (zcodes 4).all (zeok 4) = true := by decide +kernel
set_option maxRecDepth 100000 in
theorem zk_5 : (zcodes 5).all (zeok 5) = true := by decide +kernel
set_option maxRecDepth 100000 in
theorem zk_6 : (zcodes 6).all (zeok 6) = true := by decide +kernel
set_option maxRecDepth 100000 in
theorem zk_7 : (zcodes 7).all (zeok 7) = true := by decide +kernel
set_option maxRecDepth 100000 in
theorem zk_8 : (zcodes 8).all (zeok 8) = true := by decide +kernel
set_option maxRecDepth 100000 in
theorem zk_9 : (zcodes 9).all (zeok 9) = true := by decide +kernel
set_option maxRecDepth 100000 in
theorem zk_10 : (zcodes 10).all (zeok 10) = true := by decide +kernel
set_option maxRecDepth 100000 in
theorem zk_11 : (zcodes 11).all (zeok 11) = true := by decide +kernel
set_option maxRecDepth 100000 in
theorem zk_12 : (zcodes 12).all (zeok 12) = true := by decide +kernel
set_option maxRecDepth 100000 in
theorem zk_13 : (zcodes 13).all (zeok 13) = true := by decide +kernel
set_option maxRecDepth 100000 in
theorem zk_14 : (zcodes 14).all (zeok 14) = true := by decide +kernel
set_option maxRecDepth 100000 in
theorem zk_15 : (zcodes 15).all (zeok 15) = true := by decide +kernel
set_option maxRecDepth 100000 in
theorem zk_16 : (zcodes 16).all (zeok 16) = true := by decide +kernel
set_option maxRecDepth 100000 in
theorem zk_17 : (zcodes 17).all (zeok 17) = true := by decide +kernel
set_option maxRecDepth 100000 in
theorem zk_18 : (zcodes 18).all (zeok 18) = true := by decide +kernel
set_option maxRecDepth 100000 in
theorem zk_19 : (zcodes 19).all (zeok 19) = true := by decide +kernel
set_option maxRecDepth 100000 in
theorem zk_20 : (zcodes 20).all (zeok 20) = true := by decide +kernel
set_option maxRecDepth 100000 in
theorem zk_21 : (zcodes 21).all (zeok 21) = true := by decide +kernel
set_option maxRecDepth 100000 in
theorem zk_22 : (zcodes 22).all (zeok 22) = true := by decide +kernel
set_option maxRecDepth 100000 in
theorem zk_23 : (zcodes 23).all (zeok 23) = true := by decide +kernel
set_option maxRecDepth 100000 in
theorem zk_24 : (zcodes 24).all (zeok 24) = true := by decide +kernel
set_option maxRecDepth 100000 in
theorem zk_25 : (zcodes 25).all (zeok 25) = true := by decide +kernel
set_option maxRecDepth 100000 in
theorem zk_26 : (zcodes 26).all (zeok 26) = true := by decide +kernel
set_option maxRecDepth 100000 in
theorem zk_27 : (zcodes 27).all (zeok 27) = true := by decide +kernel
set_option maxRecDepth 100000 in
theorem zk_28 : (zcodes 28).all (zeok 28) = true := by decide +kernel
set_option maxRecDepth 100000 in
theorem zk_29 : (zcodes 29).all (zeok 29) = true := by decide +kernel
set_option maxRecDepth 100000 in
theorem zk_30 : (zcodes 30).all (zeok 30) = true := by decide +kernel
set_option maxRecDepth 100000 in
theorem zk_31 : (zcodes 31).all (zeok 31) = true := by decide +kernel
set_option maxRecDepth 100000 in
theorem zk_32 : (zcodes 32).all (zeok 32) = true := by decide +kernel
set_option maxRecDepth 100000 in
theorem zk_33 : (zcodes 33).all (zeok 33) = true := by decide +kernel
set_option maxRecDepth 100000 in
theorem zk_34 : (zcodes 34).all (zeok 34) = true := by decide +kernel
set_option maxRecDepth 100000 in
theorem zk_35 : (zcodes 35).all (zeok 35) = true := by decide +kernel
set_option maxRecDepth 100000 in
theorem zk_36 : (zcodes 36).all (zeok 36) = true := by decide +kernel
set_option maxRecDepth 100000 in
theorem zk_37 : (zcodes 37).all (zeok 37) = true := by decide +kernel
set_option maxRecDepth 100000 in
theorem zk_38 : (zcodes 38).all (zeok 38) = true := by decide +kernel
set_option maxRecDepth 100000 in
theorem zk_39 : (zcodes 39).all (zeok 39) = true := by decide +kernel
set_option maxRecDepth 100000 in
theorem zk_40 : (zcodes 40).all (zeok 40) = true := by decide +kernel
set_option maxRecDepth 100000 in
theorem zk_41 : (zcodes 41).all (zeok 41) = true := by decide +kernel
set_option maxRecDepth 100000 in
theorem zk_42 : (zcodes 42).all (zeok 42) = true := by decide +kernel
set_option maxRecDepth 100000 in
theorem zk_43 : (zcodes 43).all (zeok 43) = true := by decide +kernel
set_option maxRecDepth 100000 in
theorem zk_44 : (zcodes 44).all (zeok 44) = true := by decide +kernel
set_option maxRecDepth 100000 in
theorem zk_45 : (zcodes 45).all (zeok 45) = true := by decide +kernel
set_option maxRecDepth 100000 in
theorem zk_46 : (zcodes 46).all (zeok 46) = true := by decide +kernel
set_option maxRecDepth 100000 in
theorem zk_47 : (zcodes 47).all (zeok 47) = true := by decide +kernel
set_option maxRecDepth 100000 in
theorem zk_48 : (zcodes 48).all (zeok 48) = true := by decide +kernel
set_option maxRecDepth 100000 in
theorem zk_49 : (zcodes 49).all (zeok 49) = true := by decide +kernel
set_option maxRecDepth 100000 in
theorem zk_50 : (zcodes 50).all (zeok 50) = true := by decide +kernel
set_option maxRecDepth 100000 in
theorem zk_51 : (zcodes 51).all (zeok 51) = true := by decide +kernel
set_option maxRecDepth 100000 in
theorem zk_52 : (zcodes 52).all (zeok 52) = true := by decide +kernel
set_option maxRecDepth 100000 in
theorem zk_53 : (zcodes 53).all (zeok 53) = true := by decide +kernel
set_option maxRecDepth 100000 in
theorem zk_54 : (zcodes 54).all (zeok 54) = true := by decide +kernel
set_option maxRecDepth 100000 in
theorem zk_55 : (zcodes 55).all (zeok 55) = true := by decide +kernel
set_option maxRecDepth 100000 in
theorem zk_56 : (zcodes 56).all (zeok 56) = true := by decide +kernel
set_option maxRecDepth 100000 in
theorem zk_57 : (zcodes 57).all (zeok 57) = true := by decide +kernel
set_option maxRecDepth 100000 in
theorem zk_58 : (zcodes 58).all (zeok 58) = true := by decide +kernel
set_option maxRecDepth 100000 in
theorem zk_59 : (zcodes 59).all (zeok 59) = true := by decide +kernel
set_option maxRecDepth 100000 in
theorem zk_60 : (zcodes 60).all (zeok 60) = true := by decide +kernel
set_option maxRecDepth 100000 in
theorem zk_61 : (zcodes 61).all (zeok 61) = true := by decide +kernel
set_option maxRecDepth 100000 in
theorem zk_62 : (zcodes 62).all (zeok 62) = true := by decide +kernel
set_option maxRecDepth 100000 in
theorem zk_63 : (zcodes 63).all (zeok 63) = true := by decide +kernel
set_option maxRecDepth 100000 in
theorem zk_64 : (zcodes 64).all (zeok 64) = true := by decide +kernel
set_option maxRecDepth 100000 in
theorem zk_65 : (zcodes 65).all (zeok 65) = true := by decide +kernel
set_option maxRecDepth 100000 in
theorem zk_66 : (zcodes 66).all (zeok 66) = true := by decide +kernel
set_option maxRecDepth 100000 in
theorem zk_67 : (zcodes 67).all (zeok 67) = true := by decide +kernel
set_option maxRecDepth 100000 in
theorem zk_68 : (zcodes 68).all (zeok 68) = true := by decide +kernel
set_option maxRecDepth 100000 in
theorem zk_69 : (zcodes 69).all (zeok 69) = true := by decide +kernel
set_option maxRecDepth 100000 in
theorem zk_70 : (zcodes 70).all (zeok 70) = true := by decide +kernel
set_option maxRecDepth 100000 in
theorem zk_71 : (zcodes 71).all (zeok 71) = true := by decide +kernel
set_option maxRecDepth 100000 in
theorem zk_72 : (zcodes 72).all (zeok 72) = true := by decide +kernel
set_option maxRecDepth 100000 in
theorem zk_73 : (zcodes 73).all (zeok 73) = true := by decide +kernel
set_option maxRecDepth 100000 in
theorem zk_74 : (zcodes 74).all (zeok 74) = true := by decide +kernel
set_option maxRecDepth 100000 in
theorem zk_75 : (zcodes 75).all (zeok 75) = true := by decide +kernel
set_option maxRecDepth 100000 in
theorem zk_76 : (zcodes 76).all (zeok 76) = true := by decide +kernel
set_option maxRecDepth 100000 in
theorem zk_77 : (zcodes 77).all (zeok 77) = true := by decide +kernel
set_option maxRecDepth 100000 in
theorem zk_78 : (zcodes 78).all (zeok 78) = true := by decide +kernel
set_option maxRecDepth 100000 in
theorem zk_79 : (zcodes 79).all (zeok 79) = true := by decide +kernel
set_option maxRecDepth 100000 in
theorem zk_80 : (zcodes 80).all (zeok 80) = true := by decide +kernel
set_option maxRecDepth 100000 in
theorem zk_81 : (zcodes 81).all (zeok 81) = true := by decide +kernel
set_option maxRecDepth 100000 in
theorem zk_82 : (zcodes 82).all (zeok 82) = true := by decide +kernel
set_option maxRecDepth 100000 in
theorem zk_83 : (zcodes 83).all (zeok 83) = true := by decide +kernel
set_option maxRecDepth 100000 in
theorem zk_84 : (zcodes 84).all (zeok 84) = true := by decide +kernel
set_option maxRecDepth 100000 in
theorem zk_85 : (zcodes 85).all (zeok 85) = true := by decide +kernel
set_option maxRecDepth 100000 in
theorem zk_86 : (zcodes 86).all (zeok 86) = true := by decide +kernel
set_option maxRecDepth 100000 in
theorem zk_87 : (zcodes 87).all (zeok 87) = true := by decide +kernel
set_option maxRecDepth 100000 in
theorem zk_88 : (zcodes 88).all (zeok 88) = true := by decide +kernel
set_option maxRecDepth 100000 in
theorem zk_89 : (zcodes 89).all (zeok 89) = true := by decide +kernel
set_option maxRecDepth 100000 in
theorem zk_90 : (zcodes 90).all (zeok 90) = true := by decide +kernel
set_option maxRecDepth 100000 in
theorem zk_91 : (zcodes 91).all (zeok 91) = true := by decide +kernel
set_option maxRecDepth 100000 in
theorem zk_92 : (zcodes 92).all (zeok 92) = true := by decide +kernel
set_option maxRecDepth 100000 in
theorem zk_93 : (zcodes 93).all (zeok 93) = true := by decide +kernel
set_option maxRecDepth 100000 in
theorem zk_94 : (zcodes 94).all (zeok 94) = true := by decide +kernel
set_option maxRecDepth 100000 in
theorem zk_95 : (zcodes 95).all (zeok 95) = true := by decide +kernel
set_option maxRecDepth 100000 in
theorem zk_96 : (zcodes 96).all (zeok 96) = true := by decide +kernel
set_option maxRecDepth 100000 in
theorem zk_97 : (zcodes 97).all (zeok 97) = true := by decide +kernel
set_option maxRecDepth 100000 in
theorem zk_98 : (zcodes 98).all (zeok 98) = true := by decide +kernel
set_option maxRecDepth 100000 in
theorem zk_99 : (zcodes 99).all (zeok 99) = true := by decide +kernel
set_option maxRecDepth 100000 in
theorem zk_100 : (zcodes 100).all (zeok 100) = true := by decide +kernel
set_option maxRecDepth 100000 in
theorem zk_101 : (zcodes 101).all (zeok 101) = true := by decide +kernel
set_option maxRecDepth 100000 in
theorem zk_102 : (zcodes 102).all (zeok 102) = true := by decide +kernel
set_option maxRecDepth 100000 in
theorem zk_103 : (zcodes 103).all (zeok 103) = true := by decide +kernel
set_option maxRecDepth 100000 in
theorem zk_104 : (zcodes 104).all (zeok 104) = true := by decide +kernel
set_option maxRecDepth 100000 in
theorem zk_105 : (zcodes 105).all (zeok 105) = true := by decide +kernel
set_option maxRecDepth 100000 in
theorem zk_106 : (zcodes 106).all (zeok 106) = true := by decide +kernel
set_option maxRecDepth 100000 in
theorem zk_107 : (zcodes 107).all (zeok 107) = true := by decide +kernel
set_option maxRecDepth 100000 in
theorem zk_108 : (zcodes 108).all (zeok 108) = true := by decide +kernel
set_option maxRecDepth 100000 in
theorem zk_109 : (zcodes 109).all (zeok 109) = true := by decide +kernel
set_option maxRecDepth 100000 in
theorem zk_110 : (zcodes 110).all (zeok 110) = true := by decide +kernel
set_option maxRecDepth 100000 in
theorem zk_111 : (zcodes 111).all (zeok 111) = true := by decide +kernel
set_option maxRecDepth 100000 in
theorem zk_112 : (zcodes 112).all (zeok 112) = true := by decide +kernel
set_option maxRecDepth 100000 in
theorem zk_113 : (zcodes 113).all (zeok 113) = true := by decide +kernel
set_option maxRecDepth 100000 in
theorem zk_114 : (zcodes 114).all (zeok 114) = true := by decide +kernel
set_option maxRecDepth 100000 in
theorem zk_115 : (zcodes 115).all (zeok 115) = true := by decide +kernel
set_option maxRecDepth 100000 in
theorem zk_116 : (zcodes 116).all (zeok 116) = true := by decide +kernel
set_option maxRecDepth 100000 in
theorem zk_117 : (zcodes 117).all (zeok 117) = true := by decide +kernel
set_option maxRecDepth 100000 in
theorem zk_118 : (zcodes 118).all (zeok 118) = true := by decide +kernel
set_option maxRecDepth 100000 in
theorem zk_119 : (zcodes 119).all (zeok 119) = true := by decide +kernel
set_option maxRecDepth 100000 in
theorem zk_120 : (zcodes 120).all (zeok 120) = true := by decide +kernel
set_option maxRecDepth 100000 in
theorem zk_121 : (zcodes 121).all (zeok 121) = true := by decide +kernel
set_option maxRecDepth 100000 in
theorem zk_122 : (zcodes 122).all (zeok 122) = true := by decide +kernel
set_option maxRecDepth 100000 in
theorem zk_123 : (zcodes 123).all (zeok 123) = true := by decide +kernel
set_option maxRecDepth 100000 in
theorem zk_124 : (zcodes 124).all (zeok 124) = true := by decide +kernel
set_option maxRecDepth 100000 in
theorem zk_125 : (zcodes 125).all (zeok 125) = true := by decide +kernel
set_option maxRecDepth 100000 in
theorem zk_126 : (zcodes 126).all (zeok 126) = true := by decide +kernel
set_option maxRecDepth 100000 in
theorem zk_127 : (zcodes 127).all (zeok 127) = true := by decide +kernel
set_option maxRecDepth 100000 in
theorem zk_128 : (zcodes 128).all (zeok 128) = true := by decide +kernel
set_option maxRecDepth 100000 in
theorem zk_129 : (zcodes 129).all (zeok 129) = true := by decide +kernel
set_option maxRecDepth 100000 in
theorem zk_130 : (zcodes 130).all (zeok 130) = true := by decide +kernel
set_option maxRecDepth 100000 in
theorem zk_131 : (zcodes 131).all (zeok 131) = true := by decide +kernel
set_option maxRecDepth 100000 in
theorem zk_132 : (zcodes 132).all (zeok 132) = true := by decide +kernel
set_option maxRecDepth 100000 in
theorem zk_133 : (zcodes 133).all (zeok 133) = true := by decide +kernel
set_option maxRecDepth 100000 in
theorem zk_134 : (zcodes 134).all (zeok 134) = true := by decide +kernel
set_option maxRecDepth 100000 in
theorem zk_135 : (zcodes 135).all (zeok 135) = true := by decide +kernel
set_option maxRecDepth 100000 in
theorem zk_136 : (zcodes 136).all (zeok 136) = true := by decide +kernel
set_option maxRecDepth 100000 in
theorem zk_137 : (zcodes 137).all (zeok 137) = true := by decide +kernel
set_option maxRecDepth 100000 in
theorem zk_138 : (zcodes 138).all (zeok 138) = true := by decide +kernel
set_option maxRecDepth 100000 in
theorem zk_139 : (zcodes 139).all (zeok 139) = true := by decide +kernel
set_option maxRecDepth 100000 in
theorem zk_140 : (zcodes 140).all (zeok 140) = true := by decide +kernel
set_option maxRecDepth 100000 in
theorem zk_141 : (zcodes 141).all (zeok 141) = true := by decide +kernel
set_option maxRecDepth 100000 in
theorem zk_142 : (zcodes 142).all (zeok 142) = true := by decide +kernel
set_option maxRecDepth 100000 in
theorem zk_143 : (zcodes 143).all (zeok 143) = true := by decide +kernel
set_option maxRecDepth 100000 in
theorem zk_144 : (zcodes 144).all (zeok 144) = true := by decide +kernel
set_option maxRecDepth 100000 in
theorem zk_145 : (zcodes 145).all (zeok 145) = true := by decide +kernel
set_option maxRecDepth 100000 in
theorem zk_146 : (zcodes 146).all (zeok 146) = true := by decide +kernel
set_option maxRecDepth 100000 in
theorem zk_147 : (zcodes 147).all (zeok 147) = true := by decide +kernel
set_option maxRecDepth 100000 in
theorem zk_148 : (zcodes 148).all (zeok 148) = true := by decide +kernel
set_option maxRecDepth 100000 in
theorem zk_149 : (zcodes 149).all (zeok 149) = true := by decide +kernel
set_option maxRecDepth 100000 in
theorem zk_150 : (zcodes 150).all (zeok 150) = true := by decide +kernel
set_option maxRecDepth 100000 in
theorem zk_151 : (zcodes 151).all (zeok 151) = true := by decide +kernel
set_option maxRecDepth 100000 in
theorem zk_152 : (zcodes 152).all (zeok 152) = true := by decide +kernel
set_option maxRecDepth 100000 in
theorem zk_153 : (zcodes 153).all (zeok 153) = true := by decide +kernel
set_option maxRecDepth 100000 in
theorem zk_154 : (zcodes 154).all (zeok 154) = true := by decide +kernel
set_option maxRecDepth 100000 in
theorem zk_155 : (zcodes 155).all (zeok 155) = true := by decide +kernel
set_option maxRecDepth 100000 in
theorem zk_156 : (zcodes 156).all (zeok 156) = true := by decide +kernel
set_option maxRecDepth 100000 in
theorem zk_157 : (zcodes 157).all (zeok 157) = true := by decide +kernel
set_option maxRecDepth 100000 in
theorem zk_158 : (zcodes 158).all (zeok 158) = true := by decide +kernel
set_option maxRecDepth 100000 in
theorem zk_159 : (zcodes 159).all (zeok 159) = true := by decide +kernel
set_option maxRecDepth 100000 in
theorem zk_160 : (zcodes 160).all (zeok 160) = true := by decide +kernel
set_option maxRecDepth 100000 in
theorem zk_161 : (zcodes 161).all (zeok 161) = true := by decide +kernel
set_option maxRecDepth 100000 in
theorem zk_162 : (zcodes 162).all (zeok 162) = true := by decide +kernel
set_option maxRecDepth 100000 in
theorem zk_163 : (zcodes 163).all (zeok 163) = true := by decide +kernel
set_option maxRecDepth 100000 in
theorem zk_164 : (zcodes 164).all (zeok 164) = true := by decide +kernel
set_option maxRecDepth 100000 in
theorem zk_165 : (zcodes 165).all (zeok 165) = true := by decide +kernel
set_option maxRecDepth 100000 in
theorem zk_166 : (zcodes 166).all (zeok 166) = true := by decide +kernel
set_option maxRecDepth 100000 in
theorem zk_167 : (zcodes 167).all (zeok 167) = true := by decide +kernel
set_option maxRecDepth 100000 in
theorem zk_168 : (zcodes 168).all (zeok 168) = true := by decide +kernel
set_option maxRecDepth 100000 in
theorem zk_169 : (zcodes 169).all (zeok 169) = true := by decide +kernel
set_option maxRecDepth 100000 in
theorem zk_170 : (zcodes 170).all (zeok 170) = true := by decide +kernel
set_option maxRecDepth 100000 in
theorem zk_171 : (zcodes 171).all (zeok 171) = true := by decide +kernel
set_option maxRecDepth 100000 in
theorem zk_172 : (zcodes 172).all (zeok 172) = true := by decide +kernel
set_option maxRecDepth 100000 in
theorem zk_173 : (zcodes 173).all (zeok 173) = true := by decide +kernel
set_option maxRecDepth 100000 in
theorem zk_174 : (zcodes 174).all (zeok 174) = true := by decide +kernel
set_option maxRecDepth 100000 in
theorem zk_175 : (zcodes 175).all (zeok 175) = true := by decide +kernel
set_option maxRecDepth 100000 in
theorem zk_176 : (zcodes 176).all (zeok 176) = true := by decide +kernel
set_option maxRecDepth 100000 in
theorem zk_177 : (zcodes 177).all (zeok 177) = true := by decide +kernel
set_option maxRecDepth 100000 in
theorem zk_178 : (zcodes 178).all (zeok 178) = true := by decide +kernel
set_option maxRecDepth 100000 in
theorem zk_179 : (zcodes 179).all (zeok 179) = true := by decide +kernel
set_option maxRecDepth 100000 in
theorem zk_180 : (zcodes 180).all (zeok 180) = true := by decide +kernel
set_option maxRecDepth 100000 in
theorem zk_181 : (zcodes 181).all (zeok 181) = true := by decide +kernel
set_option maxRecDepth 100000 in
theorem zk_182 : (zcodes 182).all (zeok 182) = true := by decide +kernel
set_option maxRecDepth 100000 in
theorem zk_183 : (zcodes 183).all (zeok 183) = true := by decide +kernel
set_option maxRecDepth 100000 in
theorem zk_184 : (zcodes 184).all (zeok 184) = true := by decide +kernel
set_option maxRecDepth 100000 in
theorem zk_185 : (zcodes 185).all (zeok 185) = true := by decide +kernel
set_option maxRecDepth 100000 in
theorem zk_186 : (zcodes 186).all (zeok 186) = true := by decide +kernel
set_option maxRecDepth 100000 in
theorem zk_187 : (zcodes 187).all (zeok 187) = true := by decide +kernel
set_option maxRecDepth 100000 in
theorem zk_188 : (zcodes 188).all (zeok 188) = true := by decide +kernel
set_option maxRecDepth 100000 in
theorem zk_189 : (zcodes 189).all (zeok 189) = true := by decide +kernel
set_option maxRecDepth 100000 in
theorem zk_190 : (zcodes 190).all (zeok 190) = true := by decide +kernel
set_option maxRecDepth 100000 in
theorem zk_191 : (zcodes 191).all (zeok 191) = true := by decide +kernel
set_option maxRecDepth 100000 in
theorem zk_192 : (zcodes 192).all (zeok 192) = true := by decide +kernel
set_option maxRecDepth 100000 in
theorem zk_193 : (zcodes 193).all (zeok 193) = true := by decide +kernel
set_option maxRecDepth 100000 in
theorem zk_194 : (zcodes 194).all (zeok 194) = true := by decide +kernel
set_option maxRecDepth 100000 in
theorem zk_195 : (zcodes 195).all (zeok 195) = true := by decide +kernel
set_option maxRecDepth 100000 in
theorem zk_196 : (zcodes 196).all (zeok 196) = true := by decide +kernel
set_option maxRecDepth 100000 in
theorem zk_197 : (zcodes 197).all (zeok 197) = true := by decide +kernel
set_option maxRecDepth 100000 in
theorem zk_198 : (zcodes 198).all (zeok 198) = true := by decide +kernel
set_option maxRecDepth 100000 in
theorem zk_199 : (zcodes 199).all (zeok 199) = true := by decide +kernel
set_option maxRecDepth 100000 in
theorem zk_200 : (zcodes 200).all (zeok 200) = true := by decide +kernel
set_option maxRecDepth 100000 in
theorem zk_201 : (zcodes 201).all (zeok 201) = true := by decide +kernel
set_option maxRecDepth 100000 in
theorem zk_202 : (zcodes 202).all (zeok 202) = true := by decide +kernel
set_option maxRecDepth 100000 in
theorem zk_203 : (zcodes 203).all (zeok 203) = true := by decide +kernel
set_option maxRecDepth 100000 in
theorem zk_204 : (zcodes 204).all (zeok 204) = true := by decide +kernel
set_option maxRecDepth 100000 in
theorem zk_205 : (zcodes 205).all (zeok 205) = true := by decide +kernel
set_option maxRecDepth 100000 in
theorem zk_zc_Law_law_0 : zc_Law_law_0.all (zeok 206) = true := by decide +kernel
set_option maxRecDepth 100000 in
theorem zk_zc_Law_law_1 : zc_Law_law_1.all (zeok 206) = true := by decide +kernel
set_option maxRecDepth 100000 in
theorem zk_zc_Law_law_2 : zc_Law_law_2.all (zeok 206) = true := by decide +kernel
set_option maxRecDepth 100000 in
theorem zk_zc_Law_law_3 : zc_Law_law_3.all (zeok 206) = true := by decide +kernel
set_option maxRecDepth 100000 in
theorem zk_zc_Law_law_4 : zc_Law_law_4.all (zeok 206) = true := by decide +kernel
set_option maxRecDepth 100000 in
theorem zk_zc_Law_law_5 : zc_Law_law_5.all (zeok 206) = true := by decide +kernel
set_option maxRecDepth 100000 in
theorem zk_zc_Law_law_6 : zc_Law_law_6.all (zeok 206) = true := by decide +kernel
set_option maxRecDepth 100000 in
theorem zk_zc_Law_law_7 : zc_Law_law_7.all (zeok 206) = true := by decide +kernel
set_option maxRecDepth 100000 in
theorem zk_zc_Law_law_8 : zc_Law_law_8.all (zeok 206) = true := by decide +kernel
set_option maxRecDepth 100000 in
theorem zk_zc_Law_law_9 : zc_Law_law_9.all (zeok 206) = true := by decide +kernel
set_option maxRecDepth 100000 in
theorem zk_zc_Law_law_10 : zc_Law_law_10.all (zeok 206) = true := by decide +kernel
set_option maxRecDepth 100000 in
theorem zk_zc_Law_law_11 : zc_Law_law_11.all (zeok 206) = true := by decide +kernel
set_option maxRecDepth 100000 in
theorem zk_zc_Law_law_12 : zc_Law_law_12.all (zeok 206) = true := by decide +kernel
set_option maxRecDepth 100000 in
theorem zk_zc_Law_law_13 : zc_Law_law_13.all (zeok 206) = true := by decide +kernel
set_option maxRecDepth 100000 in
theorem zk_zc_Law_law_14 : zc_Law_law_14.all (zeok 206) = true := by decide +kernel
set_option maxRecDepth 100000 in
theorem zk_zc_Law_law_15 : zc_Law_law_15.all (zeok 206) = true := by decide +kernel
set_option maxRecDepth 100000 in
theorem zk_zc_Law_law_16 : zc_Law_law_16.all (zeok 206) = true := by decide +kernel
set_option maxRecDepth 100000 in
theorem zk_zc_Law_law_17 : zc_Law_law_17.all (zeok 206) = true := by decide +kernel
set_option maxRecDepth 100000 in
theorem zk_zc_Law_law_18 : zc_Law_law_18.all (zeok 206) = true := by decide +kernel
set_option maxRecDepth 100000 in
theorem zk_zc_Law_law_19 : zc_Law_law_19.all (zeok 206) = true := by decide +kernel
set_option maxRecDepth 100000 in
theorem zk_zc_Law_law_20 : zc_Law_law_20.all (zeok 206) = true := by decide +kernel
set_option maxRecDepth 100000 in
theorem zk_zc_Law_law_21 : zc_Law_law_21.all (zeok 206) = true := by decide +kernel
set_option maxRecDepth 100000 in
theorem zk_zc_Law_law_22 : zc_Law_law_22.all (zeok 206) = true := by decide +kernel
set_option maxRecDepth 100000 in
theorem zk_zc_Law_law_23 : zc_Law_law_23.all (zeok 206) = true := by decide +kernel
set_option maxRecDepth 100000 in
theorem zk_zc_Law_law_24 : zc_Law_law_24.all (zeok 206) = true := by decide +kernel
set_option maxRecDepth 100000 in
theorem zk_zc_Law_law_25 : zc_Law_law_25.all (zeok 206) = true := by decide +kernel
set_option maxRecDepth 100000 in
theorem zk_zc_Law_law_26 : zc_Law_law_26.all (zeok 206) = true := by decide +kernel
set_option maxRecDepth 100000 in
theorem zk_zc_Law_law_27 : zc_Law_law_27.all (zeok 206) = true := by decide +kernel
set_option maxRecDepth 100000 in
theorem zk_zc_Law_law_28 : zc_Law_law_28.all (zeok 206) = true := by decide +kernel
set_option maxRecDepth 100000 in
theorem zk_zc_Law_law_29 : zc_Law_law_29.all (zeok 206) = true := by decide +kernel
set_option maxRecDepth 100000 in
theorem zk_zc_Law_law_30 : zc_Law_law_30.all (zeok 206) = true := by decide +kernel
set_option maxRecDepth 100000 in
theorem zk_zc_Law_law_31 : zc_Law_law_31.all (zeok 206) = true := by decide +kernel
set_option maxRecDepth 100000 in
theorem zk_zc_Law_law_32 : zc_Law_law_32.all (zeok 206) = true := by decide +kernel
set_option maxRecDepth 100000 in
theorem zk_zc_Law_law_33 : zc_Law_law_33.all (zeok 206) = true := by decide +kernel
set_option maxRecDepth 100000 in
theorem zk_zc_Law_law_34 : zc_Law_law_34.all (zeok 206) = true := by decide +kernel
set_option maxRecDepth 100000 in
theorem zk_zc_Law_law_35 : zc_Law_law_35.all (zeok 206) = true := by decide +kernel
set_option maxRecDepth 100000 in
theorem zk_zc_Law_law_36 : zc_Law_law_36.all (zeok 206) = true := by decide +kernel
set_option maxRecDepth 100000 in
theorem zk_zc_Law_law_37 : zc_Law_law_37.all (zeok 206) = true := by decide +kernel
set_option maxRecDepth 100000 in
theorem zk_zc_Law_law_38 : zc_Law_law_38.all (zeok 206) = true := by decide +kernel
set_option maxRecDepth 100000 in
theorem zk_zc_Law_law_39 : zc_Law_law_39.all (zeok 206) = true := by decide +kernel
set_option maxRecDepth 100000 in
theorem zk_zc_Law_law_40 : zc_Law_law_40.all (zeok 206) = true := by decide +kernel
set_option maxRecDepth 100000 in
theorem zk_zc_Law_law_41 : zc_Law_law_41.all (zeok 206) = true := by decide +kernel
set_option maxRecDepth 100000 in
theorem zk_zc_Law_law_42 : zc_Law_law_42.all (zeok 206) = true := by decide +kernel
set_option maxRecDepth 100000 in
theorem zk_zc_Law_law_43 : zc_Law_law_43.all (zeok 206) = true := by decide +kernel
set_option maxRecDepth 100000 in
theorem zk_zc_Law_law_44 : zc_Law_law_44.all (zeok 206) = true := by decide +kernel
set_option maxRecDepth 100000 in
theorem zk_zc_Law_law_45 : zc_Law_law_45.all (zeok 206) = true := by decide +kernel
set_option maxRecDepth 100000 in
theorem zk_zc_Law_law_46 : zc_Law_law_46.all (zeok 206) = true := by decide +kernel
set_option maxRecDepth 100000 in
theorem zk_zc_Law_law_47 : zc_Law_law_47.all (zeok 206) = true := by decide +kernel
set_option maxRecDepth 100000 in
theorem zk_zc_Law_law_48 : zc_Law_law_48.all (zeok 206) = true := by decide +kernel
set_option maxRecDepth 100000 in
theorem zk_zc_Law_law_49 : zc_Law_law_49.all (zeok 206) = true := by decide +kernel
set_option maxRecDepth 100000 in
theorem zk_zc_Law_law_50 : zc_Law_law_50.all (zeok 206) = true := by decide +kernel
theorem zk_206 : (zcodes 206).all (zeok 206) = true := zall_app zk_zc_Law_law_0 (zall_app zk_zc_Law_law_1 (zall_app zk_zc_Law_law_2 (zall_app zk_zc_Law_law_3 (zall_app zk_zc_Law_law_4 (zall_app zk_zc_Law_law_5 (zall_app zk_zc_Law_law_6 (zall_app zk_zc_Law_law_7 (zall_app zk_zc_Law_law_8 (zall_app zk_zc_Law_law_9 (zall_app zk_zc_Law_law_10 (zall_app zk_zc_Law_law_11 (zall_app zk_zc_Law_law_12 (zall_app zk_zc_Law_law_13 (zall_app zk_zc_Law_law_14 (zall_app zk_zc_Law_law_15 (zall_app zk_zc_Law_law_16 (zall_app zk_zc_Law_law_17 (zall_app zk_zc_Law_law_18 (zall_app zk_zc_Law_law_19 (zall_app zk_zc_Law_law_20 (zall_app zk_zc_Law_law_21 (zall_app zk_zc_Law_law_22 (zall_app zk_zc_Law_law_23 (zall_app zk_zc_Law_law_24 (zall_app zk_zc_Law_law_25 (zall_app zk_zc_Law_law_26 (zall_app zk_zc_Law_law_27 (zall_app zk_zc_Law_law_28 (zall_app zk_zc_Law_law_29 (zall_app zk_zc_Law_law_30 (zall_app zk_zc_Law_law_31 (zall_app zk_zc_Law_law_32 (zall_app zk_zc_Law_law_33 (zall_app zk_zc_Law_law_34 (zall_app zk_zc_Law_law_35 (zall_app zk_zc_Law_law_36 (zall_app zk_zc_Law_law_37 (zall_app zk_zc_Law_law_38 (zall_app zk_zc_Law_law_39 (zall_app zk_zc_Law_law_40 (zall_app zk_zc_Law_law_41 (zall_app zk_zc_Law_law_42 (zall_app zk_zc_Law_law_43 (zall_app zk_zc_Law_law_44 (zall_app zk_zc_Law_law_45 (zall_app zk_zc_Law_law_46 (zall_app zk_zc_Law_law_47 (zall_app zk_zc_Law_law_48 (zall_app zk_zc_Law_law_49 (zk_zc_Law_law_50))))))))))))))))))))))))))))))))))))))))))))))))))
set_option maxRecDepth 100000 in
theorem zk_207 : (zcodes 207).all (zeok 207) = true := by decide +kernel
set_option maxRecDepth 100000 in
theorem zk_208 : (zcodes 208).all (zeok 208) = true := by decide +kernel
set_option maxRecDepth 100000 in
theorem zk_209 : (zcodes 209).all (zeok 209) = true := by decide +kernel
set_option maxRecDepth 100000 in
theorem zk_210 : (zcodes 210).all (zeok 210) = true := by decide +kernel
set_option maxRecDepth 100000 in
theorem zk_211 : (zcodes 211).all (zeok 211) = true := by decide +kernel
set_option maxRecDepth 100000 in
theorem zk_212 : (zcodes 212).all (zeok 212) = true := by decide +kernel
set_option maxRecDepth 100000 in
theorem zk_213 : (zcodes 213).all (zeok 213) = true := by decide +kernel
set_option maxRecDepth 100000 in
theorem zk_214 : (zcodes 214).all (zeok 214) = true := by decide +kernel
theorem zk_all : ∀ mi, mi < 215 → (zcodes mi).all (zeok mi) = true := fun mi h => match mi, h with
  | 0, _ => zk_0
  | 1, _ => zk_1
  | 2, _ => zk_2
  | 3, _ => zk_3
  | 4, _ => zk_4
  | 5, _ => zk_5
  | 6, _ => zk_6
  | 7, _ => zk_7
  | 8, _ => zk_8
  | 9, _ => zk_9
  | 10, _ => zk_10
  | 11, _ => zk_11
  | 12, _ => zk_12
  | 13, _ => zk_13
  | 14, _ => zk_14
  | 15, _ => zk_15
  | 16, _ => zk_16
  | 17, _ => zk_17
  | 18, _ => zk_18
  | 19, _ => zk_19
  | 20, _ => zk_20
  | 21, _ => zk_21
  | 22, _ => zk_22
  | 23, _ => zk_23
  | 24, _ => zk_24
  | 25, _ => zk_25
  | 26, _ => zk_26
  | 27, _ => zk_27
  | 28, _ => zk_28
  | 29, _ => zk_29
  | 30, _ => zk_30
  | 31, _ => zk_31
  | 32, _ => zk_32
  | 33, _ => zk_33
  | 34, _ => zk_34
  | 35, _ => zk_35
  | 36, _ => zk_36
  | 37, _ => zk_37
  | 38, _ => zk_38
  | 39, _ => zk_39
  | 40, _ => zk_40
  | 41, _ => zk_41
  | 42, _ => zk_42
  | 43, _ => zk_43
  | 44, _ => zk_44
  | 45, _ => zk_45
  | 46, _ => zk_46
  | 47, _ => zk_47
  | 48, _ => zk_48
  | 49, _ => zk_49
  | 50, _ => zk_50
  | 51, _ => zk_51
  | 52, _ => zk_52
  | 53, _ => zk_53
  | 54, _ => zk_54
  | 55, _ => zk_55
  | 56, _ => zk_56
  | 57, _ => zk_57
  | 58, _ => zk_58
  | 59, _ => zk_59
  | 60, _ => zk_60
  | 61, _ => zk_61
  | 62, _ => zk_62
  | 63, _ => zk_63
  | 64, _ => zk_64
  | 65, _ => zk_65
  | 66, _ => zk_66
  | 67, _ => zk_67
  | 68, _ => zk_68
  | 69, _ => zk_69
  | 70, _ => zk_70
  | 71, _ => zk_71
  | 72, _ => zk_72
  | 73, _ => zk_73
  | 74, _ => zk_74
  | 75, _ => zk_75
  | 76, _ => zk_76
  | 77, _ => zk_77
  | 78, _ => zk_78
  | 79, _ => zk_79
  | 80, _ => zk_80
  | 81, _ => zk_81
  | 82, _ => zk_82
  | 83, _ => zk_83
  | 84, _ => zk_84
  | 85, _ => zk_85
  | 86, _ => zk_86
  | 87, _ => zk_87
  | 88, _ => zk_88
  | 89, _ => zk_89
  | 90, _ => zk_90
  | 91, _ => zk_91
  | 92, _ => zk_92
  | 93, _ => zk_93
  | 94, _ => zk_94
  | 95, _ => zk_95
  | 96, _ => zk_96
  | 97, _ => zk_97
  | 98, _ => zk_98
  | 99, _ => zk_99
  | 100, _ => zk_100
  | 101, _ => zk_101
  | 102, _ => zk_102
  | 103, _ => zk_103
  | 104, _ => zk_104
  | 105, _ => zk_105
  | 106, _ => zk_106
  | 107, _ => zk_107
  | 108, _ => zk_108
  | 109, _ => zk_109
  | 110, _ => zk_110
  | 111, _ => zk_111
  | 112, _ => zk_112
  | 113, _ => zk_113
  | 114, _ => zk_114
  | 115, _ => zk_115
  | 116, _ => zk_116
  | 117, _ => zk_117
  | 118, _ => zk_118
  | 119, _ => zk_119
  | 120, _ => zk_120
  | 121, _ => zk_121
  | 122, _ => zk_122
  | 123, _ => zk_123
  | 124, _ => zk_124
  | 125, _ => zk_125
  | 126, _ => zk_126
  | 127, _ => zk_127
  | 128, _ => zk_128
  | 129, _ => zk_129
  | 130, _ => zk_130
  | 131, _ => zk_131
  | 132, _ => zk_132
  | 133, _ => zk_133
  | 134, _ => zk_134
  | 135, _ => zk_135
  | 136, _ => zk_136
  | 137, _ => zk_137
  | 138, _ => zk_138
  | 139, _ => zk_139
  | 140, _ => zk_140
  | 141, _ => zk_141
  | 142, _ => zk_142
  | 143, _ => zk_143
  | 144, _ => zk_144
  | 145, _ => zk_145
  | 146, _ => zk_146
  | 147, _ => zk_147
  | 148, _ => zk_148
  | 149, _ => zk_149
  | 150, _ => zk_150
  | 151, _ => zk_151
  | 152, _ => zk_152
  | 153, _ => zk_153
  | 154, _ => zk_154
  | 155, _ => zk_155
  | 156, _ => zk_156
  | 157, _ => zk_157
  | 158, _ => zk_158
  | 159, _ => zk_159
  | 160, _ => zk_160
  | 161, _ => zk_161
  | 162, _ => zk_162
  | 163, _ => zk_163
  | 164, _ => zk_164
  | 165, _ => zk_165
  | 166, _ => zk_166
  | 167, _ => zk_167
  | 168, _ => zk_168
  | 169, _ => zk_169
  | 170, _ => zk_170
  | 171, _ => zk_171
  | 172, _ => zk_172
  | 173, _ => zk_173
  | 174, _ => zk_174
  | 175, _ => zk_175
  | 176, _ => zk_176
  | 177, _ => zk_177
  | 178, _ => zk_178
  | 179, _ => zk_179
  | 180, _ => zk_180
  | 181, _ => zk_181
  | 182, _ => zk_182
  | 183, _ => zk_183
  | 184, _ => zk_184
  | 185, _ => zk_185
  | 186, _ => zk_186
  | 187, _ => zk_187
  | 188, _ => zk_188
  | 189, _ => zk_189
  | 190, _ => zk_190
  | 191, _ => zk_191
  | 192, _ => zk_192
  | 193, _ => zk_193
  | 194, _ => zk_194
  | 195, _ => zk_195
  | 196, _ => zk_196
  | 197, _ => zk_197
  | 198, _ => zk_198
  | 199, _ => zk_199
  | 200, _ => zk_200
  | 201, _ => zk_201
  | 202, _ => zk_202
  | 203, _ => zk_203
  | 204, _ => zk_204
  | 205, _ => zk_205
  | 206, _ => zk_206
  | 207, _ => zk_207
  | 208, _ => zk_208
  | 209, _ => zk_209
  | 210, _ => zk_210
  | 211, _ => zk_211
  | 212, _ => zk_212
  | 213, _ => zk_213
  | 214, _ => zk_214
  | n + 215, h => absurd h (by omega)
theorem zow_ok : ∀ mi, mi < 215 → zon (zow mi) = (zyn mi).cls := by decide +kernel
theorem zfind_i : ∀ {code : List ZE} {pc : Nat} {e : ZE}, zfind code pc = some e → e ∈ code ∧ e.1 = pc
  | [], _, _, h => by cases h
  | f :: r, pc, e, h => by
    unfold zfind at h
    cases hb : Nat.beq f.1 pc with
    | true =>
      rw [hb] at h
      cases h
      exact ⟨List.mem_cons_self, Nat.eq_of_beq_eq_true hb⟩
    | false =>
      rw [hb] at h
      obtain ⟨h1, h2⟩ := zfind_i h
      exact ⟨List.mem_cons_of_mem _ h1, h2⟩
section ZEXEC
variable {p : Program} {l : Launch} {e : Env} {R : Room} {s : State} {m : MethodId} {args : Array Value} {below : List Frame} {meth : Method} {c : Code} {cells slots : Nat} {Q : State → Prop}
variable {dC : Nat → ClassId} {dI : Nat → Nat → Nat} {cA : Nat → ClassId} {ad : ZN → Nat} {fv : Value} {nms : List ZN} {A : Nat → Prop} {ro : Bool} {ρ : ZS} {mi : Nat}
/-- what is asked of the ends of a method -/
def zRet (p : Program) (l : Launch) (e : Env) (R : Room) (s : State) (m : MethodId) (args : Array Value) (below : List Frame) (meth : Method) (c : Code) (cells slots : Nat) (Q : State → Prop) (dC : Nat → ClassId) (dI : Nat → Nat → Nat) (cA : Nat → ClassId) (ad : ZN → Nat) (nms : List ZN) (A : Nat → Prop) (ρ : ZS) (mi : Nat) (r : ZV × ZS) : Prop :=
  (∀ (v : Int32) (ty : FieldType) (σ : ZS) (pc : Nat) (H : Heap) (locs : List Loc) (la : Array Slot), r = (.inl v, σ) → zrtt mi = some ty → narrow ty (.int v) = .int v → decode (zbt mi) pc = .ok (.ireturn, 1) → va_P (dC, dI) vwCl (zws cA ad nms σ) H → va_S A s.heap H locs → zre ρ σ → W p l e R s m args below meth c H locs cells slots Q (F0 m pc la [.int v])) ∧
  (∀ (v : Int64) (σ : ZS) (pc : Nat) (H : Heap) (locs : List Loc) (la : Array Slot), r = (.inr (.inl v), σ) → zrtt mi = some .long → decode (zbt mi) pc = .ok (.lreturn, 1) → va_P (dC, dI) vwCl (zws cA ad nms σ) H → va_S A s.heap H locs → zre ρ σ → W p l e R s m args below meth c H locs cells slots Q (F0 m pc la [.long v])) ∧
  (∀ (σ : ZS) (pc : Nat) (H : Heap) (locs : List Loc) (la : Array Slot), r = (.inl 0, σ) → zrtt mi = none → decode (zbt mi) pc = .ok (.return_, 1) → va_P (dC, dI) vwCl (zws cA ad nms σ) H → va_S A s.heap H locs → zre ρ σ → W p l e R s m args below meth c H locs cells slots Q (F0 m pc la []))
theorem zrun_ok (hf : fv.category = 1) (hfv : fv = .null ∨ ∃ a, fv = .ref a) (hw : zwf ad nms A) (hmi : mi < 215) (hpl : ro = true ∨ zplain mi = true) (hc : zCtx p R s m args c cells slots dC dI cA ad fv A ro ρ mi)
    {C : Nat → List ZV → ZS → ZR} (hC : ∀ k as σ1 v σ2, C k as σ1 = some (v, σ2) → k < 215 → k ≠ 206 → (ro = true ∨ zplain k = true) → zsum as ≤ znl k → zvs nms ro as → zre ρ σ1 → zMet l dC dI cA ad fv nms A ro ρ k as σ1 v σ2)
    {X : Nat → ZL → List ZV → ZS → ZR} {r : ZV × ZS} (hX : ∀ pc ls st σ, X pc ls st σ = some r → zvl nms ro ls → zvs nms ro st → zre ρ σ → zAW p l e R s m args below meth c cells slots Q dC dI cA ad fv nms A mi pc ls st σ)
    (hR : zRet p l e R s m args below meth c cells slots Q dC dI cA ad nms A ρ mi r) :
    ∀ (k : Nat) (f : ZE), f ∈ zcodes mi → ∀ (ls : ZL) (st : List ZV) (σ : ZS), zrun (zcodes mi) C X k f ls st σ = some r → zvl nms ro ls → zvs nms ro st → zre ρ σ → zAW p l e R s m args below meth c cells slots Q dC dI cA ad fv nms A mi f.1 ls st σ
  | 0, f, _, ls, st, σ, h, _, _, _ => by cases h
  | k + 1, f, hfm, ls, st, σ, h, hvl, hvs, hre => by
    unfold zrun at h
    have hok := List.all_eq_true.mp (zk_all mi hmi) f hfm
    unfold zeok at hok
    simp only [Bool.and_eq_true, decide_eq_true_eq, Nat.beq_eq] at hok
    obtain ⟨k1, k2, k3⟩ := hok
    refine zstep hf hfv hw hpl hc hC (fun pc ls st σ h hvl hvs hre => ?_) hR.1 hR.2.1 hR.2.2 k1 k2 k3 h hvl hvs hre
    cases hz : zfind (zcodes mi) pc with
    | none =>
      rw [hz] at h
      cases h
    | some g =>
      rw [hz] at h
      obtain ⟨g1, g2⟩ := zfind_i hz
      obtain ⟨a1, a2, a3, lv, a5⟩ := g
      dsimp only at g2
      subst g2
      cases lv with
      | none => exact zrun_ok hf hfv hw hmi hpl hc hC hX hR k _ g1 ls st σ h hvl hvs hre
      | some lv =>
        dsimp only at h
        cases hp : zpick ls lv with
        | none =>
          rw [hp] at h
          cases h
        | some l1 =>
          rw [hp] at h
          have h2 := hX _ _ _ _ h (fun q hq => hvl q (zpick_s hp q hq)) hvs hre
          exact fun H locs la hP hS hl => h2 H locs la hP hS (zpick_has hl hp)
theorem zsound (hf : fv.category = 1) (hfv : fv = .null ∨ ∃ a, fv = .ref a) (hw : zwf ad nms A) : ∀ (n mi : Nat), mi < 215 → (ro = true ∨ zplain mi = true) → ∀ (pc : Nat) (ls : ZL) (st : List ZV) (σ : ZS) (r : ZV × ZS), zexec zcodes n mi pc ls st σ = some r → zvl nms ro ls → zvs nms ro st → zre ρ σ →
    ∀ (p : Program) (e : Env) (R : Room) (s : State) (m : MethodId) (args : Array Value) (below : List Frame) (meth : Method) (c : Code) (cells slots : Nat) (Q : State → Prop), zCtx p R s m args c cells slots dC dI cA ad fv A ro ρ mi → zRet p l e R s m args below meth c cells slots Q dC dI cA ad nms A ρ mi r → zAW p l e R s m args below meth c cells slots Q dC dI cA ad fv nms A mi pc ls st σ
  | 0, mi, _, _, pc, ls, st, σ, r, h, _, _, _ => by cases h
  | n + 1, mi, hmi, hpl, pc, ls, st, σ, r, h, hvl, hvs, hre => by
    intro p e R s m args below meth c cells slots Q hc hR
    unfold zexec at h
    cases hz : zfind (zcodes mi) pc with
    | none =>
      rw [hz] at h
      cases h
    | some g =>
      rw [hz] at h
      obtain ⟨g1, g2⟩ := zfind_i hz
      subst g2
      refine zrun_ok hf hfv hw hmi hpl hc (fun k as σ1 v σ2 h hk h6 hpl hnl hvs hre => ?_) (fun pc ls st σ h hvl hvs hre => zsound hf hfv hw n mi hmi hpl pc ls st σ r h hvl hvs hre p e R s m args below meth c cells slots Q hc hR) hR 600 g g1 ls st σ h hvl hvs hre
      refine Met.ofW (cc := zbt k) (maxL := znl k) (ret := zrtt k) (zm_plain k hk).1 rfl ?_
      intro p e s m args below meth c s₁ B hml hv
      obtain ⟨rfl, hP, hK, hro⟩ := hv
      have hts := atoms_spec (ws := Cond.code (zyn k) (zbt k) (znl k) (zrtt k) :: zTB) B.pre
      have hown : s.vm.findClass (zon (zow k)) = some m.cls := by
        rw [zow_ok k hk]
        exact findClass_of_methodNamed B.named
      have hl := lv_entry (as.map (zcv ad fv)) (n := znl k) (by rw [zsl_c hf]; exact hnl)
      rw [lg_entry_eq]
      refine zsound hf hfv hw n k hk hpl 0 (zargs 0 as) [] σ1 (v, σ2) h (fun q hq => hvs _ (zargs_s as 0 q hq)) (fun q hq => by cases hq) hre p e _ s m _ below meth c 0 0 _ ⟨B.exec, B.bytes, hml, hown, fun w hw => hts w (List.mem_cons_of_mem _ hw), Nat.le_refl _, Nat.le_refl _, Nat.le_refl _, Nat.le_refl _, hK, hro⟩ ⟨?_, ?_, ?_⟩ s.heap [] _ hP va_S.rf (by rw [zargs_c hf]; exact hl)
      · intro w ty σ pc H locs la hr hrt hn hd hP hS hre
        cases hr
        refine W.zret B.exec B.bytes (B.returns.trans hrt) hn (fun t ht hW => ⟨?_, by rw [ht]; exact hP, hS.F ht, hre⟩) hS.2.2 hd B.notSynchronized
        rw [hrt]
        rfl
      · intro w σ pc H locs la hr hrt hd hP hS hre
        cases hr
        refine W.lret B.exec B.bytes (B.returns.trans hrt) (fun t ht hW => ⟨?_, by rw [ht]; exact hP, hS.F ht, hre⟩) hS.2.2 hd B.notSynchronized
        rw [hrt]
        rfl
      · intro σ pc H locs la hr hrt hd hP hS hre
        cases hr
        refine W.vret B.exec B.bytes (B.returns.trans hrt) (fun t ht hW => ⟨?_, by rw [ht]; exact hP, hS.F ht, hre⟩) hS.2.2 hd B.notSynchronized
        rw [hrt]
        rfl
end ZEXEC
